/-! ===== what nobody writes: the table of kinds, the two Strings of names ===== -/
def sByt : List (List Int32) := [[111, 110, 104], [99, 104, 112]]
def sB (i j : Nat) : Int32 := (sByt.getD i []).getD j 0
def XS (SA : Nat → Nat) (A : Nat → Prop) (U : State) (H : Heap) : Prop :=
  va_Z "OneOfTwo" "KIND_ABOVE" "[I" (.ref (SA 0)) A U H ∧ va_T .int (SA 0) 7 (fun j => .int (kAbove j)) A U H ∧ va_Z "java/lang/String" "COMPACT_STRINGS" "Z" (.int 1) A U H ∧ vk_S 2 [3, 3] sByt (fun i => SA (1 + i)) (fun i => SA (3 + i)) A U H ∧ vk_R "OneOfTwo$Text" 34 "onh" (SA 1) U ∧ vk_R "OneOfTwo$Text" 36 "chp" (SA 2) U
theorem XS.kept {SA : Nat → Nat} {A : Nat → Prop} {U : State} {H H1 : Heap} (h : XS SA A U H) (hq : ∀ a : Nat, a < H.size → ¬ A a → H1[a]? = H[a]?) : XS SA A U H1 :=
  ⟨h.1.kept hq, h.2.1.kept hq, h.2.2.1.kept hq, h.2.2.2.1.kept hq, h.2.2.2.2⟩
theorem s3 {i : Nat} (h : i < 2) : ([3, 3] : List Nat).getD i 0 = 3 := by
  rcases (show i = 0 ∨ i = 1 by omega) with rfl | rfl <;> rfl
theorem XS.tb {SA : Nat → Nat} {A : Nat → Prop} {U : State} {H : Heap} (h : XS SA A U H) {i : Nat} (hi : i < 2) : va_T .byte (SA (3 + i)) 3 (fun j => .int (sB i j)) A U H := by
  have := (h.2.2.2.1.1 i hi).2.2.2
  rw [s3 hi] at this
  exact this
theorem XS.narrow {SA : Nat → Nat} {A B : Nat → Prop} {U : State} {H : Heap} (h : XS SA A U H) (hAB : ∀ q, B q → A q) : XS SA B U H :=
  ⟨h.1.narrow hAB, h.2.1.narrow hAB, h.2.2.1.narrow hAB, h.2.2.2.1.narrow hAB, h.2.2.2.2⟩
theorem XS.warm {SA : Nat → Nat} {A : Nat → Prop} {s U : State} {H : Heap} (hW : s.WarmedH U.vm) (h : XS SA A s H) : XS SA A U H :=
  ⟨h.1.moved hW.alike, h.2.1.moved hW.alike, h.2.2.1.moved hW.alike, h.2.2.2.1.moved hW.alike, h.2.2.2.2.1.warm hW, h.2.2.2.2.2.warm hW⟩
theorem XS.call {SA : Nat → Nat} {A : Nat → Prop} {U : State} {H : Heap} {g : JFrame} {mk : MethodId} {a : Array Value} (h : XS SA A U H) : XS SA A (U.calling g mk a) H :=
  ⟨va_Z.moved (u := U) (Vm.Alike.refl U.vm) h.1, va_T.moved (u := U) (Vm.Alike.refl U.vm) h.2.1, va_Z.moved (u := U) (Vm.Alike.refl U.vm) h.2.2.1, vk_S.moved (u := U) (Vm.Alike.refl U.vm) h.2.2.2.1, vk_R.same (u := U) rfl h.2.2.2.2.1, vk_R.same (u := U) rfl h.2.2.2.2.2⟩
/-- at a call: at the callee's start -/
theorem XS.go {SA : Nat → Nat} {A B : Nat → Prop} {s U : State} {H : Heap} {locs : List Loc} (h : XS SA A s s.heap) (hS : va_S A s.heap H locs) (hB : ∀ q, B q → A q) (hU : U.heap = H) (hW : s.WarmedH U.vm) : XS SA B U U.heap := by
  rw [hU]
  exact ((h.kept hS.2.1).narrow hB).warm hW
def UxP (SA : Nat → Nat) : State → Prop := fun U => XS SA (fun _ => False) U U.heap
def WxP (SA : Nat → Nat) (E : ET) (T : Nat → ClassId) (D : va_G) (ad : Nat → Nat) (K : Nat) (M : Mem) (sz : Nat) : State → Prop := fun U => WrP E T D ad K M sz U ∧ XS SA (AA ad K sz) U U.heap
theorem blU {SA : Nat → Nat} {av : List Value} : FrameBlind (va_Pc av (UxP SA)) := fun a U g mk h => ⟨h.1, h.2.call⟩
theorem blX {SA : Nat → Nat} {E : ET} {T : Nat → ClassId} {D : va_G} {ad : Nat → Nat} {K : Nat} {M : Mem} {sz : Nat} {av : List Value} : FrameBlind (va_Pc av (WxP SA E T D ad K M sz)) :=
  fun a U g mk h => ⟨h.1, ⟨h.2.1.1, h.2.1.2.1, h.2.1.2.2.1.call, h.2.1.2.2.2⟩, h.2.2.call⟩
section BASE5
variable {p : Program} {l : Launch} {e : Env} {R : Room} {s : State} {m : MethodId} {args : Array Value} {below : List Frame} {meth : Method} {c : Code} {H : Heap} {locs : List Loc} {cells slots : Nat} {Q : State → Prop}
variable {cc : ByteArray} {nL : Nat} {own : String} {pc index : Nat} {ls : Array Slot} {rest st0 : List Value} {a : Array Value} {E : ET} {T : Nat → ClassId} {D : va_G} {ad : Nat → Nat} {K : Nat} {A : Nat → Prop} {H0 : Heap} {M : Mem} {SA : Nat → Nat}
/-- a static method that knows of what nobody writes -/
theorem k_Sx {Q1 : Int32 → Prop} {y : MethodName} {bytes : ByteArray} {maxL lv n index : Nat} {ret : Option FieldType} {As : List Value}
    (hM : Met l y (Cond.code y bytes maxL ret :: TB) (RM lv) (va_Pc As (UxP SA)) (QcR Q1) 0 0 (fun _ => False))
    (hcode : Cond.code y bytes maxL ret ∈ TB) (hstt : Cond.static y ∈ TB) (hini : Cond.initialized y.cls ∈ TB) (hy : y.cls ≠ "java/lang/invoke/MethodHandle" ∧ y.cls ≠ "java/lang/invoke/VarHandle" ∧ (parseMethodDescriptor y.desc).map (fun d => d.parameters.length) = some n) (hn : As.length = n)
    (C : CallFix p m c cc nL s args TB own) (hls : ls.size = nL) (hXS : XS SA A s s.heap) (hS : va_S A s.heap H locs) (hlink : Cond.methodLink own index y ∈ TB) (hR : lv + 1 ≤ R.frames ∧ 8 + (maxL + 11) + 48 * lv ≤ R.locals) (hcs : cells ≤ R.cells ∧ slots ≤ R.slots) (hcat : (rest.map fun v => v.category).sum ≤ 8) (hst : st0 = As.reverse ++ rest) (hdg : decode cc pc = .ok (.invokestatic index, 3))
    (kk : ∀ r : Int32, Q1 r → W p l e R s m args below meth c H locs cells slots Q (F0 m (pc + 3) ls (.int r :: rest))) : W p l e R s m args below meth c H locs cells slots Q (F0 m pc ls st0) :=
  cl_R (va_runS C hM (va_cwS n C.2.2.2.2 (gdS hcode hlink hstt hini) rfl rfl rfl hy ⟨hR.1, hR.2⟩) ⟨blU, fun U hU hW => ⟨rfl, hXS.go hS (fun _ h => h.elim) hU hW⟩⟩ rfl hn hls hst (lv_room hcat) hdg ⟨hcs.1, hcs.2⟩) kk
/-- a method of one of the two Strings -/
theorem k_Vs {Q1 : Int32 → Prop} {y : MethodName} {bytes : ByteArray} {maxL lv n index i : Nat} {ret : Option FieldType} {As : List Value}
    (hM : Met l y (Cond.code y bytes maxL ret :: TB) (RM lv) (va_Pc (.ref (SA (1 + i)) :: As) (UxP SA)) (QcR Q1) 0 0 (fun _ => False))
    (hcode : Cond.code y bytes maxL ret ∈ TB) (hins : Cond.instanceMethod y ∈ TB) (hsel : Cond.selects "java/lang/String" y y ∈ TB) (hini : Cond.initialized "java/lang/String" ∈ TB) (hy : y.cls = "java/lang/String" ∧ y.cls ≠ "java/lang/invoke/MethodHandle" ∧ y.cls ≠ "java/lang/invoke/VarHandle" ∧ (parseMethodDescriptor y.desc).map (fun d => d.parameters.length) = some n) (hn : As.length = n) (hi : i < 2)
    (C : CallFix p m c cc nL s args TB own) (hls : ls.size = nL) (hXS : XS SA A s s.heap) (hS : va_S A s.heap H locs) (hlink : Cond.methodLink own index y ∈ TB) (hR : lv + 1 ≤ R.frames ∧ 8 + (maxL + 11) + 48 * lv ≤ R.locals) (hcs : cells ≤ R.cells ∧ slots ≤ R.slots) (hcat : (rest.map fun v => v.category).sum ≤ 8) (hst : st0 = As.reverse ++ .ref (SA (1 + i)) :: rest) (hdg : decode cc pc = .ok (.invokevirtual index, 3))
    (kk : ∀ r : Int32, Q1 r → W p l e R s m args below meth c H locs cells slots Q (F0 m (pc + 3) ls (.int r :: rest))) : W p l e R s m args below meth c H locs cells slots Q (F0 m pc ls st0) := by
  have hG : GoodIn TB (wsV own index "java/lang/String" y (Cond.code y bytes maxL ret :: TB)) := by
    intro w hw
    unfold wsV at hw
    rcases List.mem_append.mp hw with hw | hw
    · simp only [List.mem_cons, List.not_mem_nil, or_false] at hw
      rcases hw with rfl | rfl | rfl | rfl
      · exact tb_good hlink
      · exact tb_good hins
      · exact tb_good hsel
      · exact tb_good hini
    · exact gdT hcode w hw
  exact cl_R (va_runV C hM (cwV n C.2.2.2.2 hG rfl rfl rfl hy ⟨hR.1, hR.2⟩) ⟨blU, vk_recv hXS.2.2.2.1 hi hS, fun U hU hW => ⟨rfl, hXS.go hS (fun _ h => h.elim) hU hW⟩⟩ rfl hn hls hst (lv_room hcat) hdg ⟨hcs.1, hcs.2⟩) kk
theorem k_VX {Q1 : Int32 → Mem → Prop} {y : MethodName} {bytes : ByteArray} {maxL lv n index : Nat} {ret : Option FieldType} {Cy : String} {As : List Value} {F : (Nat → Nat) → (Nat → Int32) → List Value} {ci k : Nat} {Tn : u_T} {N : Nat}
    (hM : Met l y (Cond.code y bytes maxL ret :: TB) (RM lv) (va_Pc (.ref (ad k) :: As) (WxP SA E T D ad K M H.size)) (QcW E T D ad K (AA ad K H.size) Q1) 0 0 (AA ad K H.size))
    (hcode : Cond.code y bytes maxL ret ∈ TB) (hins : Cond.instanceMethod y ∈ TB) (hsel : Cond.selects Cy y y ∈ TB) (hini : Cond.initialized Cy ∈ TB) (hy : y.cls = Cy ∧ y.cls ≠ "java/lang/invoke/MethodHandle" ∧ y.cls ≠ "java/lang/invoke/VarHandle" ∧ (parseMethodDescriptor y.desc).map (fun d => d.parameters.length) = some n) (hc : vwCl[ci]? = some (Cy, Tn, N)) (hn : As.length = n)
    (C : Cx T D p s m args c cc nL own) (hls : ls.size = nL) (hXS : XS SA A s s.heap) (Z : Zz E T D ad K A s.heap M H locs) (ho : OA E K k ci F) (hlink : Cond.methodLink own index y ∈ TB) (hR : lv + 1 ≤ R.frames ∧ 8 + (maxL + 11) + 48 * lv ≤ R.locals) (hcs : cells ≤ R.cells ∧ slots ≤ R.slots) (hcat : (rest.map fun v => v.category).sum ≤ 8) (hst : st0 = As.reverse ++ .ref (ad k) :: rest) (hdg : decode cc pc = .ok (.invokevirtual index, 3))
    (kk : ∀ (r : Int32) (M1 : Mem) (H1 : Heap) (locs1 : List Loc), Q1 r M1 → Zz E T D ad K A s.heap M1 H1 locs1 → W p l e R s m args below meth c H1 locs1 cells slots Q (F0 m (pc + 3) ls (.int r :: rest))) : W p l e R s m args below meth c H locs cells slots Q (F0 m pc ls st0) := by
  have hG : GoodIn TB (wsV own index Cy y (Cond.code y bytes maxL ret :: TB)) := by
    intro w hw
    unfold wsV at hw
    rcases List.mem_append.mp hw with hw | hw
    · simp only [List.mem_cons, List.not_mem_nil, or_false] at hw
      rcases hw with rfl | rfl | rfl | rfl
      · exact tb_good hlink
      · exact tb_good hins
      · exact tb_good hsel
      · exact tb_good hini
    · exact gdT hcode w hw
  have hup : ∀ q, AA ad K H.size q → A q := AA.up Z.2.2.1 (fun q hq => Z.2.2.2.1 q (Nat.le_trans Z.2.2.2.2.1 hq))
  exact cl_W (va_runV C.1 hM (cwV n C.1.2.2.2.2 hG rfl rfl rfl hy ⟨hR.1, hR.2⟩) ⟨blX, va_recv C.2.1 Z.1 (q0 := k) hc (by rw [ws_at ho.1, ho.2]), fun U hU hW => ⟨rfl, ⟨by rw [hU], by rw [hU]; exact Z.1, C.2.warm hW, Z.2.1⟩, hXS.go Z.2.2.2.2 hup hU hW⟩⟩ rfl hn hls hst (lv_room hcat) hdg ⟨hcs.1, hcs.2⟩) Z kk
theorem e_bR {Q1 : Int32 → Prop} {v : Int32} (C : CallFix p m c cc nL s args TB own) (hr : meth.sig.returnType = some .byte) (hlk : meth.locks = false) (hdg : decode cc pc = .ok (.ireturn, 1)) (hz : narrow .byte (.int v) = .int v) (hq : Q1 v) : W p l e R s m args below meth c s.heap [] cells slots (MQ below (QcR Q1) args s cells slots (fun _ => False)) (F0 m pc ls [.int v]) :=
  W.zret C.1 C.2.1 hr hz (fun t ht _ => ⟨v, rfl, hq, ht⟩) t_nil hdg hlk
end BASE5
theorem st_Sx {SA : Nat → Nat} {l : Launch} {y : MethodName} {cc : ByteArray} {maxL lv : Nat} {ret : Option FieldType} {Q1 : Int32 → Prop} {av : List Value} (hy : plainName y.cls = true) (hlen : (lg_sl av).length ≤ maxL)
    (body : ∀ (p : Program) (e : Env) (s : State) (m : MethodId) (args : Array Value) (below : List Frame) (meth : Method) (c : Code) (ls : Array Slot), CallFix p m c cc maxL s args TB y.cls → meth.sig.returnType = ret → meth.locks = false → XS SA (fun _ => False) s s.heap → lv_has ls maxL (lv_args 0 av) → W p l e (RM lv) s m args below meth c s.heap [] 0 0 (MQ below (QcR Q1) args s 0 0 (fun _ => False)) (F0 m 0 ls [])) :
    Met l y (Cond.code y cc maxL ret :: TB) (RM lv) (va_Pc av (UxP SA)) (QcR Q1) 0 0 (fun _ => False) := by
  refine Met.ofW (cc := cc) (maxL := maxL) (ret := ret) hy rfl ?_
  intro p e s m args below meth c s₁ B hml hv
  obtain ⟨rfl, hX⟩ := hv
  have hts := atoms_spec (ws := Cond.code y cc maxL ret :: TB) B.pre
  have hl := lv_entry av hlen
  rw [lg_entry_eq]
  exact body p e s m _ below meth c _ ⟨B.exec, B.bytes, hml, findClass_of_methodNamed B.named, fun w hw => hts w (List.mem_cons_of_mem _ hw)⟩ B.returns B.notSynchronized hX hl
theorem st_Wx {SA : Nat → Nat} {l : Launch} {y : MethodName} {cc : ByteArray} {maxL lv : Nat} {ret : Option FieldType} {E : ET} {T : Nat → ClassId} {D : va_G} {ad : Nat → Nat} {K sz : Nat} {M : Mem} {Qc : Array Value → State → Outcome → State → Prop} {av : List Value} (hy : plainName y.cls = true) (hlen : (lg_sl av).length ≤ maxL)
    (body : ∀ (p : Program) (e : Env) (s : State) (m : MethodId) (args : Array Value) (below : List Frame) (meth : Method) (c : Code) (ls : Array Slot), Cx T D p s m args c cc maxL y.cls → meth.sig.returnType = ret → meth.locks = false → s.heap.size = sz → XS SA (AA ad K sz) s s.heap → Zz E T D ad K (AA ad K sz) s.heap M s.heap [] → lv_has ls maxL (lv_args 0 av) → W p l e (RM lv) s m args below meth c s.heap [] 0 0 (MQ below Qc args s 0 0 (AA ad K sz)) (F0 m 0 ls [])) :
    Met l y (Cond.code y cc maxL ret :: TB) (RM lv) (va_Pc av (WxP SA E T D ad K M sz)) Qc 0 0 (AA ad K sz) := by
  refine Met.ofW (cc := cc) (maxL := maxL) (ret := ret) hy rfl ?_
  intro p e s m args below meth c s₁ B hml hv
  obtain ⟨rfl, ⟨hsz, hP, hK, hD⟩, hX⟩ := hv
  have hts := atoms_spec (ws := Cond.code y cc maxL ret :: TB) B.pre
  have hl := lv_entry av hlen
  rw [lg_entry_eq]
  exact body p e s m _ below meth c _ ⟨⟨B.exec, B.bytes, hml, findClass_of_methodNamed B.named, fun w hw => hts w (List.mem_cons_of_mem _ hw)⟩, hK⟩ B.returns B.notSynchronized hsz hX ⟨hP, hD, fun k hk => Or.inl ⟨k, hk, rfl⟩, fun q hq => Or.inr (by rw [← hsz]; exact hq), va_S.rf⟩ hl
theorem dJ0_length_8abf5_0 : decode cJ0_length_8abf5 0 = .ok (.aload_n 0, 1) := by decide +kernel
theorem dJ0_length_8abf5_1 : decode cJ0_length_8abf5 1 = .ok (.getfield 9, 3) := by decide +kernel
theorem dJ0_length_8abf5_4 : decode cJ0_length_8abf5 4 = .ok (.arraylength, 1) := by decide +kernel
theorem dJ0_length_8abf5_5 : decode cJ0_length_8abf5 5 = .ok (.aload_n 0, 1) := by decide +kernel
theorem dJ0_length_8abf5_6 : decode cJ0_length_8abf5 6 = .ok (.invokevirtual 335, 3) := by decide +kernel
theorem dJ0_length_8abf5_9 : decode cJ0_length_8abf5 9 = .ok (.ishr, 1) := by decide +kernel
theorem dJ0_length_8abf5_10 : decode cJ0_length_8abf5 10 = .ok (.ireturn, 1) := by decide +kernel
theorem dJ0_indexOf_0f7a4_0 : decode cJ0_indexOf_0f7a4 0 = .ok (.aload_n 0, 1) := by decide +kernel
theorem dJ0_indexOf_0f7a4_1 : decode cJ0_indexOf_0f7a4 1 = .ok (.iload_n 1, 1) := by decide +kernel
theorem dJ0_indexOf_0f7a4_2 : decode cJ0_indexOf_0f7a4 2 = .ok (.iconst 0, 1) := by decide +kernel
theorem dJ0_indexOf_0f7a4_3 : decode cJ0_indexOf_0f7a4 3 = .ok (.invokevirtual 633, 3) := by decide +kernel
theorem dJ0_indexOf_0f7a4_6 : decode cJ0_indexOf_0f7a4 6 = .ok (.ireturn, 1) := by decide +kernel
theorem dJ0_indexOf_7cf53_0 : decode cJ0_indexOf_7cf53 0 = .ok (.aload_n 0, 1) := by decide +kernel
theorem dJ0_indexOf_7cf53_1 : decode cJ0_indexOf_7cf53 1 = .ok (.invokevirtual 492, 3) := by decide +kernel
theorem dJ0_indexOf_7cf53_4 : decode cJ0_indexOf_7cf53 4 = .ok (.ifCond .eq 19, 3) := by decide +kernel
theorem dJ0_indexOf_7cf53_7 : decode cJ0_indexOf_7cf53 7 = .ok (.aload_n 0, 1) := by decide +kernel
theorem dJ0_indexOf_7cf53_8 : decode cJ0_indexOf_7cf53 8 = .ok (.getfield 9, 3) := by decide +kernel
theorem dJ0_indexOf_7cf53_11 : decode cJ0_indexOf_7cf53 11 = .ok (.iload_n 1, 1) := by decide +kernel
theorem dJ0_indexOf_7cf53_12 : decode cJ0_indexOf_7cf53 12 = .ok (.iload_n 2, 1) := by decide +kernel
theorem dJ0_indexOf_7cf53_13 : decode cJ0_indexOf_7cf53 13 = .ok (.aload_n 0, 1) := by decide +kernel
theorem dJ0_indexOf_7cf53_14 : decode cJ0_indexOf_7cf53 14 = .ok (.invokevirtual 505, 3) := by decide +kernel
theorem dJ0_indexOf_7cf53_17 : decode cJ0_indexOf_7cf53 17 = .ok (.invokestatic 637, 3) := by decide +kernel
theorem dJ0_indexOf_7cf53_20 : decode cJ0_indexOf_7cf53 20 = .ok (.goto 16, 3) := by decide +kernel
theorem dJ0_indexOf_7cf53_23 : decode cJ0_indexOf_7cf53 23 = .ok (.aload_n 0, 1) := by decide +kernel
theorem dJ0_indexOf_7cf53_24 : decode cJ0_indexOf_7cf53 24 = .ok (.getfield 9, 3) := by decide +kernel
theorem dJ0_indexOf_7cf53_27 : decode cJ0_indexOf_7cf53 27 = .ok (.iload_n 1, 1) := by decide +kernel
theorem dJ0_indexOf_7cf53_28 : decode cJ0_indexOf_7cf53 28 = .ok (.iload_n 2, 1) := by decide +kernel
theorem dJ0_indexOf_7cf53_29 : decode cJ0_indexOf_7cf53 29 = .ok (.aload_n 0, 1) := by decide +kernel
theorem dJ0_indexOf_7cf53_30 : decode cJ0_indexOf_7cf53 30 = .ok (.invokevirtual 505, 3) := by decide +kernel
theorem dJ0_indexOf_7cf53_33 : decode cJ0_indexOf_7cf53 33 = .ok (.invokestatic 640, 3) := by decide +kernel
theorem dJ0_indexOf_7cf53_36 : decode cJ0_indexOf_7cf53 36 = .ok (.ireturn, 1) := by decide +kernel
theorem dJ0_coder_7d493_0 : decode cJ0_coder_7d493 0 = .ok (.getstatic 38, 3) := by decide +kernel
theorem dJ0_coder_7d493_3 : decode cJ0_coder_7d493 3 = .ok (.ifCond .eq 10, 3) := by decide +kernel
theorem dJ0_coder_7d493_6 : decode cJ0_coder_7d493 6 = .ok (.aload_n 0, 1) := by decide +kernel
theorem dJ0_coder_7d493_7 : decode cJ0_coder_7d493 7 = .ok (.getfield 15, 3) := by decide +kernel
theorem dJ0_coder_7d493_10 : decode cJ0_coder_7d493 10 = .ok (.goto 4, 3) := by decide +kernel
theorem dJ0_coder_7d493_13 : decode cJ0_coder_7d493 13 = .ok (.iconst 1, 1) := by decide +kernel
theorem dJ0_coder_7d493_14 : decode cJ0_coder_7d493 14 = .ok (.ireturn, 1) := by decide +kernel
theorem dJ0_isLatin1_aae02_0 : decode cJ0_isLatin1_aae02 0 = .ok (.getstatic 38, 3) := by decide +kernel
theorem dJ0_isLatin1_aae02_3 : decode cJ0_isLatin1_aae02 3 = .ok (.ifCond .eq 14, 3) := by decide +kernel
theorem dJ0_isLatin1_aae02_6 : decode cJ0_isLatin1_aae02 6 = .ok (.aload_n 0, 1) := by decide +kernel
theorem dJ0_isLatin1_aae02_7 : decode cJ0_isLatin1_aae02 7 = .ok (.getfield 15, 3) := by decide +kernel
theorem dJ0_isLatin1_aae02_10 : decode cJ0_isLatin1_aae02 10 = .ok (.ifCond .ne 7, 3) := by decide +kernel
theorem dJ0_isLatin1_aae02_13 : decode cJ0_isLatin1_aae02 13 = .ok (.iconst 1, 1) := by decide +kernel
theorem dJ0_isLatin1_aae02_14 : decode cJ0_isLatin1_aae02 14 = .ok (.goto 4, 3) := by decide +kernel
theorem dJ0_isLatin1_aae02_17 : decode cJ0_isLatin1_aae02 17 = .ok (.iconst 0, 1) := by decide +kernel
theorem dJ0_isLatin1_aae02_18 : decode cJ0_isLatin1_aae02 18 = .ok (.ireturn, 1) := by decide +kernel
theorem dJ1_canEncode_9a6ad_0 : decode cJ1_canEncode_9a6ad 0 = .ok (.iload_n 0, 1) := by decide +kernel
theorem dJ1_canEncode_9a6ad_1 : decode cJ1_canEncode_9a6ad 1 = .ok (.ifCond .lt 14, 3) := by decide +kernel
theorem dJ1_canEncode_9a6ad_4 : decode cJ1_canEncode_9a6ad 4 = .ok (.iload_n 0, 1) := by decide +kernel
theorem dJ1_canEncode_9a6ad_5 : decode cJ1_canEncode_9a6ad 5 = .ok (.sipush 255, 3) := by decide +kernel
theorem dJ1_canEncode_9a6ad_8 : decode cJ1_canEncode_9a6ad 8 = .ok (.if_icmp .gt 7, 3) := by decide +kernel
theorem dJ1_canEncode_9a6ad_11 : decode cJ1_canEncode_9a6ad 11 = .ok (.iconst 1, 1) := by decide +kernel
theorem dJ1_canEncode_9a6ad_12 : decode cJ1_canEncode_9a6ad 12 = .ok (.goto 4, 3) := by decide +kernel
theorem dJ1_canEncode_9a6ad_15 : decode cJ1_canEncode_9a6ad 15 = .ok (.iconst 0, 1) := by decide +kernel
theorem dJ1_canEncode_9a6ad_16 : decode cJ1_canEncode_9a6ad 16 = .ok (.ireturn, 1) := by decide +kernel
theorem dJ1_indexOf_4cfef_0 : decode cJ1_indexOf_4cfef 0 = .ok (.iload_n 1, 1) := by decide +kernel
theorem dJ1_indexOf_4cfef_1 : decode cJ1_indexOf_4cfef 1 = .ok (.invokestatic 88, 3) := by decide +kernel
theorem dJ1_indexOf_4cfef_4 : decode cJ1_indexOf_4cfef 4 = .ok (.ifCond .ne 5, 3) := by decide +kernel
theorem dJ1_indexOf_4cfef_7 : decode cJ1_indexOf_4cfef 7 = .ok (.iconst (-1), 1) := by decide +kernel
theorem dJ1_indexOf_4cfef_8 : decode cJ1_indexOf_4cfef 8 = .ok (.ireturn, 1) := by decide +kernel
theorem dJ1_indexOf_4cfef_9 : decode cJ1_indexOf_4cfef 9 = .ok (.iload_n 2, 1) := by decide +kernel
theorem dJ1_indexOf_4cfef_10 : decode cJ1_indexOf_4cfef 10 = .ok (.iconst 0, 1) := by decide +kernel
theorem dJ1_indexOf_4cfef_11 : decode cJ1_indexOf_4cfef 11 = .ok (.invokestatic 92, 3) := by decide +kernel
theorem dJ1_indexOf_4cfef_14 : decode cJ1_indexOf_4cfef 14 = .ok (.istore_n 2, 1) := by decide +kernel
theorem dJ1_indexOf_4cfef_15 : decode cJ1_indexOf_4cfef 15 = .ok (.iload_n 3, 1) := by decide +kernel
theorem dJ1_indexOf_4cfef_16 : decode cJ1_indexOf_4cfef 16 = .ok (.aload_n 0, 1) := by decide +kernel
theorem dJ1_indexOf_4cfef_17 : decode cJ1_indexOf_4cfef 17 = .ok (.arraylength, 1) := by decide +kernel
theorem dJ1_indexOf_4cfef_18 : decode cJ1_indexOf_4cfef 18 = .ok (.invokestatic 38, 3) := by decide +kernel
theorem dJ1_indexOf_4cfef_21 : decode cJ1_indexOf_4cfef 21 = .ok (.istore_n 3, 1) := by decide +kernel
theorem dJ1_indexOf_4cfef_22 : decode cJ1_indexOf_4cfef 22 = .ok (.iload_n 2, 1) := by decide +kernel
theorem dJ1_indexOf_4cfef_23 : decode cJ1_indexOf_4cfef 23 = .ok (.iload_n 3, 1) := by decide +kernel
theorem dJ1_indexOf_4cfef_24 : decode cJ1_indexOf_4cfef 24 = .ok (.if_icmp .lt 5, 3) := by decide +kernel
theorem dJ1_indexOf_4cfef_27 : decode cJ1_indexOf_4cfef 27 = .ok (.iconst (-1), 1) := by decide +kernel
theorem dJ1_indexOf_4cfef_28 : decode cJ1_indexOf_4cfef 28 = .ok (.ireturn, 1) := by decide +kernel
theorem dJ1_indexOf_4cfef_29 : decode cJ1_indexOf_4cfef 29 = .ok (.aload_n 0, 1) := by decide +kernel
theorem dJ1_indexOf_4cfef_30 : decode cJ1_indexOf_4cfef 30 = .ok (.iload_n 1, 1) := by decide +kernel
theorem dJ1_indexOf_4cfef_31 : decode cJ1_indexOf_4cfef 31 = .ok (.iload_n 2, 1) := by decide +kernel
theorem dJ1_indexOf_4cfef_32 : decode cJ1_indexOf_4cfef 32 = .ok (.iload_n 3, 1) := by decide +kernel
theorem dJ1_indexOf_4cfef_33 : decode cJ1_indexOf_4cfef 33 = .ok (.invokestatic 95, 3) := by decide +kernel
theorem dJ1_indexOf_4cfef_36 : decode cJ1_indexOf_4cfef 36 = .ok (.ireturn, 1) := by decide +kernel
theorem dJ1_indexOfChar_4cfef_0 : decode cJ1_indexOfChar_4cfef 0 = .ok (.iload_n 1, 1) := by decide +kernel
theorem dJ1_indexOfChar_4cfef_1 : decode cJ1_indexOfChar_4cfef 1 = .ok (.i2b, 1) := by decide +kernel
theorem dJ1_indexOfChar_4cfef_2 : decode cJ1_indexOfChar_4cfef 2 = .ok (.istore 4, 2) := by decide +kernel
theorem dJ1_indexOfChar_4cfef_4 : decode cJ1_indexOfChar_4cfef 4 = .ok (.iload_n 2, 1) := by decide +kernel
theorem dJ1_indexOfChar_4cfef_5 : decode cJ1_indexOfChar_4cfef 5 = .ok (.istore 5, 2) := by decide +kernel
theorem dJ1_indexOfChar_4cfef_7 : decode cJ1_indexOfChar_4cfef 7 = .ok (.iload 5, 2) := by decide +kernel
theorem dJ1_indexOfChar_4cfef_9 : decode cJ1_indexOfChar_4cfef 9 = .ok (.iload_n 3, 1) := by decide +kernel
theorem dJ1_indexOfChar_4cfef_10 : decode cJ1_indexOfChar_4cfef 10 = .ok (.if_icmp .ge 21, 3) := by decide +kernel
theorem dJ1_indexOfChar_4cfef_13 : decode cJ1_indexOfChar_4cfef 13 = .ok (.aload_n 0, 1) := by decide +kernel
theorem dJ1_indexOfChar_4cfef_14 : decode cJ1_indexOfChar_4cfef 14 = .ok (.iload 5, 2) := by decide +kernel
theorem dJ1_indexOfChar_4cfef_16 : decode cJ1_indexOfChar_4cfef 16 = .ok (.baload, 1) := by decide +kernel
theorem dJ1_indexOfChar_4cfef_17 : decode cJ1_indexOfChar_4cfef 17 = .ok (.iload 4, 2) := by decide +kernel
theorem dJ1_indexOfChar_4cfef_19 : decode cJ1_indexOfChar_4cfef 19 = .ok (.if_icmp .ne 6, 3) := by decide +kernel
theorem dJ1_indexOfChar_4cfef_22 : decode cJ1_indexOfChar_4cfef 22 = .ok (.iload 5, 2) := by decide +kernel
theorem dJ1_indexOfChar_4cfef_24 : decode cJ1_indexOfChar_4cfef 24 = .ok (.ireturn, 1) := by decide +kernel
theorem dJ1_indexOfChar_4cfef_25 : decode cJ1_indexOfChar_4cfef 25 = .ok (.iinc 5 1, 3) := by decide +kernel
theorem dJ1_indexOfChar_4cfef_28 : decode cJ1_indexOfChar_4cfef 28 = .ok (.goto (-21), 3) := by decide +kernel
theorem dJ1_indexOfChar_4cfef_31 : decode cJ1_indexOfChar_4cfef 31 = .ok (.iconst (-1), 1) := by decide +kernel
theorem dJ1_indexOfChar_4cfef_32 : decode cJ1_indexOfChar_4cfef 32 = .ok (.ireturn, 1) := by decide +kernel
section
variable {p : Program} {l : Launch} {e : Env} {R : Room} {s : State} {m : MethodId} {args : Array Value} {below : List Frame} {meth : Method} {c : Code} {H : Heap} {locs : List Loc} {cells slots : Nat} {QQ : State → Prop}
variable {cc : ByteArray} {nL : Nat} {own : String} {pc index : Nat} {ls : Array Slot} {rest : List Value} {T : Nat → ClassId} {D : va_G} {ad : Nat → Nat} {A : Nat → Prop} {H0 : Heap}
def P_J1_canEncode_9a6ad (x0 : Int32) (Q1 : Int32 → Prop) : Prop :=
  ((x0 < 0 → Q1 0) ∧
    (¬ x0 < 0 → ((255 < x0 → Q1 0) ∧
      (¬ 255 < x0 → Q1 1))))
set_option maxRecDepth 100000 in
set_option maxHeartbeats 4000000 in
theorem c_J1_canEncode_9a6ad {l : Launch} {x0 : Int32} {Q1 : Int32 → Prop} (hB : P_J1_canEncode_9a6ad x0 Q1) : Met l yJ1_canEncode_9a6ad (Cond.code yJ1_canEncode_9a6ad cJ1_canEncode_9a6ad 1 (some .boolean) :: TB) (RM 1) (va_Pc [.int x0] StP) (QcR Q1) 0 0 (fun _ => False) := by
  refine st_S (by decide) (Nat.le_of_ble_eq_true rfl) (fun p e s m args below meth c ls C hr hlk hl => ?_)
  have hl : lv_has ls 1 [(0, .int x0)] := hl
  have hx := C.1
  have hb := C.2.1
  delta P_J1_canEncode_9a6ad at hB
  refine lv_iload_n hx hb dJ1_canEncode_9a6ad_0 rfl (lv_at hl 0 rfl) ?_
  refine lv_if_lt (tgt := 15) hx hb dJ1_canEncode_9a6ad_1 (by decide) (fun q1 => ?_) (fun q1 => ?_)
  · have hB := hB.1 q1
    refine lv_iconst (v := 0) hx hb dJ1_canEncode_9a6ad_15 (by decide) ?_
    exact e_zR C hr hlk dJ1_canEncode_9a6ad_16 (Or.inl rfl) hB
  · have hB := hB.2 q1
    refine lv_iload_n hx hb dJ1_canEncode_9a6ad_4 rfl (lv_at hl 0 rfl) ?_
    refine lv_sipush (v := 255) hx hb dJ1_canEncode_9a6ad_5 (by decide) ?_
    refine lv_icmp_gt (tgt := 15) hx hb dJ1_canEncode_9a6ad_8 (by decide) (fun q2 => ?_) (fun q2 => ?_)
    · have hB := hB.1 q2
      refine lv_iconst (v := 0) hx hb dJ1_canEncode_9a6ad_15 (by decide) ?_
      exact e_zR C hr hlk dJ1_canEncode_9a6ad_16 (Or.inl rfl) hB
    · have hB := hB.2 q2
      refine lv_iconst (v := 1) hx hb dJ1_canEncode_9a6ad_11 (by decide) ?_
      refine lv_goto (tgt := 16) hx hb dJ1_canEncode_9a6ad_12 (by decide) ?_
      exact e_zR C hr hlk dJ1_canEncode_9a6ad_16 (Or.inr rfl) hB
set_option maxRecDepth 100000 in
set_option maxHeartbeats 4000000 in
theorem v_J1_canEncode_9a6ad {x0 : Int32} {Q1 : Int32 → Prop} (C : CallFix p m c cc nL s args TB own) (hls : ls.size = nL) (hlink : Cond.methodLink own index yJ1_canEncode_9a6ad ∈ TB) (hR : 1 + 1 ≤ R.frames ∧ 8 + (1 + 11) + 48 * 1 ≤ R.locals) (hcs : cells ≤ R.cells ∧ slots ≤ R.slots) (hcat : (rest.map fun v => v.category).sum ≤ 8) (hdg : decode cc pc = .ok (.invokestatic index, 3)) (hB : P_J1_canEncode_9a6ad x0 Q1)
    (kk : ∀ r : Int32, Q1 r → W p l e R s m args below meth c H locs cells slots QQ (F0 m (pc + 3) ls (.int r :: rest))) : W p l e R s m args below meth c H locs cells slots QQ (F0 m pc ls (.int x0 :: rest)) :=
  k_S (n := 1) (c_J1_canEncode_9a6ad hB) tw_3_183 tw_3_182 tw_1_17 ⟨by decide, by decide, by decide +kernel⟩ rfl C hls  hlink hR hcs hcat rfl hdg kk
def P_J0_isLatin1_aae02 (g : Nat) (Q1 : Int32 → Prop) : Prop :=
  Q1 1
set_option maxRecDepth 100000 in
set_option maxHeartbeats 4000000 in
theorem c_J0_isLatin1_aae02 {l : Launch} {SA : Nat → Nat} {g : Nat} {Q1 : Int32 → Prop} (hg : g < 2) (hB : P_J0_isLatin1_aae02 g Q1) : Met l yJ0_isLatin1_aae02 (Cond.code yJ0_isLatin1_aae02 cJ0_isLatin1_aae02 1 (some .boolean) :: TB) (RM 1) (va_Pc [.ref (SA (1 + g))] (UxP SA)) (QcR Q1) 0 0 (fun _ => False) := by
  refine st_Sx (by decide) (Nat.le_of_ble_eq_true rfl) (fun p e s m args below meth c ls C hr hlk hXS hl => ?_)
  have hl : lv_has ls 1 [(0, .ref (SA (1 + g)))] := hl
  have hx := C.1
  have hb := C.2.1
  delta P_J0_isLatin1_aae02 at hB
  refine va_gets hx hb hXS.2.2.1 va_S.rf C.2.2.2.1 (C.2.2.2.2 _ tw_3_168) (fun _ h => h) dJ0_isLatin1_aae02_0 ?_
  refine lv_if_eq (tgt := 17) hx hb dJ0_isLatin1_aae02_3 (by decide) (fun q1 => absurd q1 (by decide)) (fun _ => ?_)
  refine lv_aload_n hx hb dJ0_isLatin1_aae02_6 rfl (lv_at hl 0 rfl) ?_
  refine vk_getf hx hb (hXS.2.2.2.1.1 _ hg).2.1 va_S.rf C.2.2.2.1 (C.2.2.2.2 _ tw_7_143) (fun _ h => h) dJ0_isLatin1_aae02_7 ?_
  refine lv_if_ne (tgt := 17) hx hb dJ0_isLatin1_aae02_10 (by decide) (fun q2 => absurd q2 (by decide)) (fun _ => ?_)
  refine lv_iconst (v := 1) hx hb dJ0_isLatin1_aae02_13 (by decide) ?_
  refine lv_goto (tgt := 18) hx hb dJ0_isLatin1_aae02_14 (by decide) ?_
  exact e_zR C hr hlk dJ0_isLatin1_aae02_18 (Or.inr rfl) hB
set_option maxRecDepth 100000 in
set_option maxHeartbeats 4000000 in
theorem v_J0_isLatin1_aae02 {SA : Nat → Nat} {g : Nat} {Q1 : Int32 → Prop} (C : CallFix p m c cc nL s args TB own) (hls : ls.size = nL) (hXS : XS SA A s s.heap) (hS : va_S A s.heap H locs) (hg : g < 2) (hlink : Cond.methodLink own index yJ0_isLatin1_aae02 ∈ TB) (hR : 1 + 1 ≤ R.frames ∧ 8 + (1 + 11) + 48 * 1 ≤ R.locals) (hcs : cells ≤ R.cells ∧ slots ≤ R.slots) (hcat : (rest.map fun v => v.category).sum ≤ 8) (hdg : decode cc pc = .ok (.invokevirtual index, 3)) (hB : P_J0_isLatin1_aae02 g Q1)
    (kk : ∀ r : Int32, Q1 r → W p l e R s m args below meth c H locs cells slots QQ (F0 m (pc + 3) ls (.int r :: rest))) : W p l e R s m args below meth c H locs cells slots QQ (F0 m pc ls (.ref (SA (1 + g)) :: rest)) :=
  k_Vs (n := 0) (c_J0_isLatin1_aae02 hg hB) tw_3_167 tw_3_165 tw_3_166 tw_1_16 ⟨rfl, by decide, by decide, by decide +kernel⟩ rfl hg C hls hXS hS hlink hR hcs hcat rfl hdg kk
def P_J0_coder_7d493 (g : Nat) (Q1 : Int32 → Prop) : Prop :=
  Q1 0
set_option maxRecDepth 100000 in
set_option maxHeartbeats 4000000 in
theorem c_J0_coder_7d493 {l : Launch} {SA : Nat → Nat} {g : Nat} {Q1 : Int32 → Prop} (hg : g < 2) (hB : P_J0_coder_7d493 g Q1) : Met l yJ0_coder_7d493 (Cond.code yJ0_coder_7d493 cJ0_coder_7d493 1 (some .byte) :: TB) (RM 1) (va_Pc [.ref (SA (1 + g))] (UxP SA)) (QcR Q1) 0 0 (fun _ => False) := by
  refine st_Sx (by decide) (Nat.le_of_ble_eq_true rfl) (fun p e s m args below meth c ls C hr hlk hXS hl => ?_)
  have hl : lv_has ls 1 [(0, .ref (SA (1 + g)))] := hl
  have hx := C.1
  have hb := C.2.1
  delta P_J0_coder_7d493 at hB
  refine va_gets hx hb hXS.2.2.1 va_S.rf C.2.2.2.1 (C.2.2.2.2 _ tw_3_168) (fun _ h => h) dJ0_coder_7d493_0 ?_
  refine lv_if_eq (tgt := 13) hx hb dJ0_coder_7d493_3 (by decide) (fun q1 => absurd q1 (by decide)) (fun _ => ?_)
  refine lv_aload_n hx hb dJ0_coder_7d493_6 rfl (lv_at hl 0 rfl) ?_
  refine vk_getf hx hb (hXS.2.2.2.1.1 _ hg).2.1 va_S.rf C.2.2.2.1 (C.2.2.2.2 _ tw_7_143) (fun _ h => h) dJ0_coder_7d493_7 ?_
  refine lv_goto (tgt := 14) hx hb dJ0_coder_7d493_10 (by decide) ?_
  exact e_bR C hr hlk dJ0_coder_7d493_14 rfl hB
set_option maxRecDepth 100000 in
set_option maxHeartbeats 4000000 in
theorem v_J0_coder_7d493 {SA : Nat → Nat} {g : Nat} {Q1 : Int32 → Prop} (C : CallFix p m c cc nL s args TB own) (hls : ls.size = nL) (hXS : XS SA A s s.heap) (hS : va_S A s.heap H locs) (hg : g < 2) (hlink : Cond.methodLink own index yJ0_coder_7d493 ∈ TB) (hR : 1 + 1 ≤ R.frames ∧ 8 + (1 + 11) + 48 * 1 ≤ R.locals) (hcs : cells ≤ R.cells ∧ slots ≤ R.slots) (hcat : (rest.map fun v => v.category).sum ≤ 8) (hdg : decode cc pc = .ok (.invokevirtual index, 3)) (hB : P_J0_coder_7d493 g Q1)
    (kk : ∀ r : Int32, Q1 r → W p l e R s m args below meth c H locs cells slots QQ (F0 m (pc + 3) ls (.int r :: rest))) : W p l e R s m args below meth c H locs cells slots QQ (F0 m pc ls (.ref (SA (1 + g)) :: rest)) :=
  k_Vs (n := 0) (c_J0_coder_7d493 hg hB) tw_3_177 tw_3_175 tw_3_176 tw_1_16 ⟨rfl, by decide, by decide, by decide +kernel⟩ rfl hg C hls hXS hS hlink hR hcs hcat rfl hdg kk
def P_J0_length_8abf5 (g : Nat) (Q1 : Int32 → Prop) : Prop :=
  P_J0_coder_7d493 g (fun v1 => Q1 (3 >>> (v1 &&& 31)))
set_option maxRecDepth 100000 in
set_option maxHeartbeats 4000000 in
theorem c_J0_length_8abf5 {l : Launch} {SA : Nat → Nat} {g : Nat} {Q1 : Int32 → Prop} (hg : g < 2) (hB : P_J0_length_8abf5 g Q1) : Met l yJ0_length_8abf5 (Cond.code yJ0_length_8abf5 cJ0_length_8abf5 1 (some .int) :: TB) (RM 2) (va_Pc [.ref (SA (1 + g))] (UxP SA)) (QcR Q1) 0 0 (fun _ => False) := by
  refine st_Sx (by decide) (Nat.le_of_ble_eq_true rfl) (fun p e s m args below meth c ls C hr hlk hXS hl => ?_)
  have hl : lv_has ls 1 [(0, .ref (SA (1 + g)))] := hl
  have hx := C.1
  have hb := C.2.1
  delta P_J0_length_8abf5 at hB
  refine lv_aload_n hx hb dJ0_length_8abf5_0 rfl (lv_at hl 0 rfl) ?_
  refine vk_getf hx hb (hXS.2.2.2.1.1 _ hg).2.2.1 va_S.rf C.2.2.2.1 (C.2.2.2.2 _ tw_7_144) (fun _ h => h) dJ0_length_8abf5_1 ?_
  refine va_tlen hx hb (hXS.tb hg) va_S.rf (v := 3) rfl dJ0_length_8abf5_4 ?_
  refine lv_aload_n hx hb dJ0_length_8abf5_5 rfl (lv_at hl 0 rfl) ?_
  refine v_J0_coder_7d493 C hl.1 hXS va_S.rf hg tw_3_174 ⟨Nat.le_of_ble_eq_true rfl, Nat.le_of_ble_eq_true rfl⟩ ⟨Nat.le_refl _, Nat.le_refl _⟩ (Nat.le_of_ble_eq_true rfl) dJ0_length_8abf5_6 hB (fun v1 hB => ?_)
  refine lv_ishr hx hb dJ0_length_8abf5_9 ?_
  exact e_iR C hr hlk dJ0_length_8abf5_10 hB
set_option maxRecDepth 100000 in
set_option maxHeartbeats 4000000 in
theorem v_J0_length_8abf5 {SA : Nat → Nat} {g : Nat} {Q1 : Int32 → Prop} (C : CallFix p m c cc nL s args TB own) (hls : ls.size = nL) (hXS : XS SA A s s.heap) (hS : va_S A s.heap H locs) (hg : g < 2) (hlink : Cond.methodLink own index yJ0_length_8abf5 ∈ TB) (hR : 2 + 1 ≤ R.frames ∧ 8 + (1 + 11) + 48 * 2 ≤ R.locals) (hcs : cells ≤ R.cells ∧ slots ≤ R.slots) (hcat : (rest.map fun v => v.category).sum ≤ 8) (hdg : decode cc pc = .ok (.invokevirtual index, 3)) (hB : P_J0_length_8abf5 g Q1)
    (kk : ∀ r : Int32, Q1 r → W p l e R s m args below meth c H locs cells slots QQ (F0 m (pc + 3) ls (.int r :: rest))) : W p l e R s m args below meth c H locs cells slots QQ (F0 m pc ls (.ref (SA (1 + g)) :: rest)) :=
  k_Vs (n := 0) (c_J0_length_8abf5 hg hB) tw_3_173 tw_3_171 tw_3_172 tw_1_16 ⟨rfl, by decide, by decide, by decide +kernel⟩ rfl hg C hls hXS hS hlink hR hcs hcat rfl hdg kk
def B_J1_indexOfChar_4cfef_7 (r0 : Nat) (Q1 : Int32 → Prop) (x3 : Int32) (x4 : Int32) (x5 : Int32) : Prop :=
  ∀ X7 : Int32 → Prop, (∀ (x5 : Int32), (((x3 ≤ x5 → Q1 (-1)) ∧
    (¬ x3 ≤ x5 → vp_in x5 3 ∧ ((¬ (sB r0 x5.toNatClampNeg) = x4 → ∀ x5_5 : Int32, x5_5 = x5 + 1 → X7 x5_5) ∧
      ((sB r0 x5.toNatClampNeg) = x4 → Q1 x5))))) → X7 x5) → X7 x5
def P_J1_indexOfChar_4cfef (r0 : Nat) (x1 : Int32) (x2 : Int32) (x3 : Int32) (Q1 : Int32 → Prop) : Prop :=
  ∀ x4_1 : Int32, x4_1 = x1.toInt8.toInt32 → B_J1_indexOfChar_4cfef_7 r0 Q1 x3 x4_1 x2
set_option maxRecDepth 100000 in
set_option maxHeartbeats 4000000 in
theorem w_J1_indexOfChar_4cfef_7 {SA : Nat → Nat} {r0 : Nat} {Q1 : Int32 → Prop} {x3 : Int32} {x4 : Int32} {x5 : Int32} (C : CallFix p m c cJ1_indexOfChar_4cfef 6 s args TB "java/lang/StringLatin1") (hr : meth.sig.returnType = (some .int)) (hlk : meth.locks = false) (hXS : XS SA (fun _ => False) s s.heap) (f0 : r0 < 2) {ls : Array Slot} (hl : lv_has ls 6 [(0, .ref (SA (3 + r0))), (3, .int x3), (4, .int x4), (5, .int x5)]) (hB : B_J1_indexOfChar_4cfef_7 r0 Q1 x3 x4 x5) : W p l e (RM 1) s m args below meth c s.heap [] 0 0 (MQ below (QcR Q1) args s 0 0 (fun _ => False)) (F0 m 7 ls []) := by
  delta B_J1_indexOfChar_4cfef_7 at hB
  obtain ⟨X7, hX7, hY7⟩ : ∃ X7 : Int32 → Prop, (∀ (x5 : Int32), X7 x5 → ∀ (ls : Array Slot), lv_has ls 6 [(0, .ref (SA (3 + r0))), (3, .int x3), (4, .int x4), (5, .int x5)] → W p l e (RM 1) s m args below meth c s.heap [] 0 0 (MQ below (QcR Q1) args s 0 0 (fun _ => False)) (F0 m 7 ls [])) ∧ (∀ (x5 : Int32), (∀ (ls : Array Slot), lv_has ls 6 [(0, .ref (SA (3 + r0))), (3, .int x3), (4, .int x4), (5, .int x5)] → W p l e (RM 1) s m args below meth c s.heap [] 0 0 (MQ below (QcR Q1) args s 0 0 (fun _ => False)) (F0 m 7 ls [])) → X7 x5) := ⟨fun (x5 : Int32) => ∀ (ls : Array Slot), lv_has ls 6 [(0, .ref (SA (3 + r0))), (3, .int x3), (4, .int x4), (5, .int x5)] → W p l e (RM 1) s m args below meth c s.heap [] 0 0 (MQ below (QcR Q1) args s 0 0 (fun _ => False)) (F0 m 7 ls []), fun _ h => h, fun _ h => h⟩
  refine hX7 _ (hB X7 (fun x5 hB => hY7 _ (fun ls hl => ?_))) _ hl
  have hx := C.1
  have hb := C.2.1
  refine lv_iload hx hb dJ1_indexOfChar_4cfef_7 (lv_at hl 3 rfl) ?_
  refine lv_iload_n hx hb dJ1_indexOfChar_4cfef_9 rfl (lv_at hl 1 rfl) ?_
  refine lv_icmp_ge (tgt := 31) hx hb dJ1_indexOfChar_4cfef_10 (by decide) (fun q2 => ?_) (fun q2 => ?_)
  · have hB := hB.1 q2
    refine lv_iconst (v := (-1)) hx hb dJ1_indexOfChar_4cfef_31 (by decide) ?_
    exact e_iR C hr hlk dJ1_indexOfChar_4cfef_32 hB
  · have hB := hB.2 q2
    refine lv_aload_n hx hb dJ1_indexOfChar_4cfef_13 rfl (lv_at hl 0 rfl) ?_
    refine lv_iload hx hb dJ1_indexOfChar_4cfef_14 (lv_at hl 3 rfl) ?_
    obtain ⟨q3, hB⟩ := hB
    refine va_tb hx hb (hXS.tb f0) va_S.rf q3 rfl dJ1_indexOfChar_4cfef_16 ?_
    refine lv_iload hx hb dJ1_indexOfChar_4cfef_17 (lv_at hl 2 rfl) ?_
    refine lv_icmp_ne (tgt := 25) hx hb dJ1_indexOfChar_4cfef_19 (by decide) (fun q4 => ?_) (fun q4 => ?_)
    · have hB := hB.1 q4
      obtain ⟨x5_5, ex5_5⟩ : ∃ y : Int32, y = x5 + 1 := ⟨_, rfl⟩
      have hB := hB x5_5 ex5_5
      refine lv_iinc (v := x5_5) (lv' := [(5, .int x5_5), (0, .ref (SA (3 + r0))), (3, .int x3), (4, .int x4)]) hx hb dJ1_indexOfChar_4cfef_25 hl (k := 3) rfl (by rw [ex5_5]; rfl) (by decide) rfl (fun ls hl => ?_)
      refine lv_goto (tgt := 7) hx hb dJ1_indexOfChar_4cfef_28 (by decide) ?_
      exact hX7 _ hB _ (lv_sub hl [1, 2, 3, 0] rfl)
    · have hB := hB.2 q4
      refine lv_iload hx hb dJ1_indexOfChar_4cfef_22 (lv_at hl 3 rfl) ?_
      exact e_iR C hr hlk dJ1_indexOfChar_4cfef_24 hB
set_option maxRecDepth 100000 in
set_option maxHeartbeats 4000000 in
theorem c_J1_indexOfChar_4cfef {l : Launch} {SA : Nat → Nat} {r0 : Nat} {x1 : Int32} {x2 : Int32} {x3 : Int32} {Q1 : Int32 → Prop} (f0 : r0 < 2) (hB : P_J1_indexOfChar_4cfef r0 x1 x2 x3 Q1) : Met l yJ1_indexOfChar_4cfef (Cond.code yJ1_indexOfChar_4cfef cJ1_indexOfChar_4cfef 6 (some .int) :: TB) (RM 1) (va_Pc [.ref (SA (3 + r0)), .int x1, .int x2, .int x3] (UxP SA)) (QcR Q1) 0 0 (fun _ => False) := by
  refine st_Sx (by decide) (Nat.le_of_ble_eq_true rfl) (fun p e s m args below meth c ls C hr hlk hXS hl => ?_)
  have hl : lv_has ls 6 [(0, .ref (SA (3 + r0))), (1, .int x1), (2, .int x2), (3, .int x3)] := hl
  have hx := C.1
  have hb := C.2.1
  delta P_J1_indexOfChar_4cfef at hB
  refine lv_iload_n hx hb dJ1_indexOfChar_4cfef_0 rfl (lv_at hl 1 rfl) ?_
  refine lv_i2b hx hb dJ1_indexOfChar_4cfef_1 rfl ?_
  refine lv_topi (fun x4_1 ex4_1 => ?_)
  have hB := hB x4_1 ex4_1
  refine lv_istore (lv' := [(4, .int x4_1), (0, .ref (SA (3 + r0))), (1, .int x1), (2, .int x2), (3, .int x3)]) hx hb dJ1_indexOfChar_4cfef_2 hl (by decide) rfl (fun ls hl => ?_)
  refine lv_iload_n hx hb dJ1_indexOfChar_4cfef_4 rfl (lv_at hl 3 rfl) ?_
  refine lv_istore (lv' := [(5, .int x2), (4, .int x4_1), (0, .ref (SA (3 + r0))), (1, .int x1), (2, .int x2), (3, .int x3)]) hx hb dJ1_indexOfChar_4cfef_5 hl (by decide) rfl (fun ls hl => ?_)
  exact w_J1_indexOfChar_4cfef_7 C hr hlk hXS f0 (lv_sub hl [2, 5, 1, 0] rfl) hB
set_option maxRecDepth 100000 in
set_option maxHeartbeats 4000000 in
theorem v_J1_indexOfChar_4cfef {SA : Nat → Nat} {r0 : Nat} {x1 : Int32} {x2 : Int32} {x3 : Int32} {Q1 : Int32 → Prop} (C : CallFix p m c cc nL s args TB own) (hls : ls.size = nL) (hXS : XS SA A s s.heap) (hS : va_S A s.heap H locs) (f0 : r0 < 2) (hlink : Cond.methodLink own index yJ1_indexOfChar_4cfef ∈ TB) (hR : 1 + 1 ≤ R.frames ∧ 8 + (6 + 11) + 48 * 1 ≤ R.locals) (hcs : cells ≤ R.cells ∧ slots ≤ R.slots) (hcat : (rest.map fun v => v.category).sum ≤ 8) (hdg : decode cc pc = .ok (.invokestatic index, 3)) (hB : P_J1_indexOfChar_4cfef r0 x1 x2 x3 Q1)
    (kk : ∀ r : Int32, Q1 r → W p l e R s m args below meth c H locs cells slots QQ (F0 m (pc + 3) ls (.int r :: rest))) : W p l e R s m args below meth c H locs cells slots QQ (F0 m pc ls (.int x3 :: .int x2 :: .int x1 :: .ref (SA (3 + r0)) :: rest)) :=
  k_Sx (n := 4) (c_J1_indexOfChar_4cfef f0 hB) tw_3_188 tw_3_187 tw_1_17 ⟨by decide, by decide, by decide +kernel⟩ rfl C hls hXS hS hlink hR hcs hcat rfl hdg kk
def P_J1_indexOf_4cfef (r0 : Nat) (x1 : Int32) (x2 : Int32) (x3 : Int32) (Q1 : Int32 → Prop) : Prop :=
  P_J1_canEncode_9a6ad x1 (fun v1 => ((¬ v1 = 0 → ∀ v3 : Int32, v3 = (if x2 < 0 then 0 else x2) → ∀ v4 : Int32, v4 = (if 3 < x3 then 3 else x3) → ((v3 < v4 → P_J1_indexOfChar_4cfef r0 x1 v3 v4 (fun v6 => Q1 v6)) ∧
      (¬ v3 < v4 → Q1 (-1)))) ∧
    (v1 = 0 → Q1 (-1))))
set_option maxRecDepth 100000 in
set_option maxHeartbeats 4000000 in
theorem c_J1_indexOf_4cfef {l : Launch} {SA : Nat → Nat} {r0 : Nat} {x1 : Int32} {x2 : Int32} {x3 : Int32} {Q1 : Int32 → Prop} (f0 : r0 < 2) (hB : P_J1_indexOf_4cfef r0 x1 x2 x3 Q1) : Met l yJ1_indexOf_4cfef (Cond.code yJ1_indexOf_4cfef cJ1_indexOf_4cfef 4 (some .int) :: TB) (RM 2) (va_Pc [.ref (SA (3 + r0)), .int x1, .int x2, .int x3] (UxP SA)) (QcR Q1) 0 0 (fun _ => False) := by
  refine st_Sx (by decide) (Nat.le_of_ble_eq_true rfl) (fun p e s m args below meth c ls C hr hlk hXS hl => ?_)
  have hl : lv_has ls 4 [(0, .ref (SA (3 + r0))), (1, .int x1), (2, .int x2), (3, .int x3)] := hl
  have hx := C.1
  have hb := C.2.1
  delta P_J1_indexOf_4cfef at hB
  refine lv_iload_n hx hb dJ1_indexOf_4cfef_0 rfl (lv_at hl 1 rfl) ?_
  refine v_J1_canEncode_9a6ad C hl.1 tw_3_181 ⟨Nat.le_of_ble_eq_true rfl, Nat.le_of_ble_eq_true rfl⟩ ⟨Nat.le_refl _, Nat.le_refl _⟩ (Nat.le_of_ble_eq_true rfl) dJ1_indexOf_4cfef_1 hB (fun v1 hB => ?_)
  refine lv_if_ne (tgt := 9) hx hb dJ1_indexOf_4cfef_4 (by decide) (fun q2 => ?_) (fun q2 => ?_)
  · have hB := hB.1 q2
    refine lv_iload_n hx hb dJ1_indexOf_4cfef_9 rfl (lv_at hl 2 rfl) ?_
    refine lv_iconst (v := 0) hx hb dJ1_indexOf_4cfef_10 (by decide) ?_
    refine m_max C hl.1 tw_3_184 (Nat.le_of_ble_eq_true rfl) (Nat.le_of_ble_eq_true rfl) dJ1_indexOf_4cfef_11 ?_
    refine lv_topi (fun v3 ev3 => ?_)
    have hB := hB v3 ev3
    refine lv_istore_n (lv' := [(2, .int v3), (0, .ref (SA (3 + r0))), (1, .int x1), (3, .int x3)]) hx hb dJ1_indexOf_4cfef_14 rfl hl (by decide) rfl (fun ls hl => ?_)
    refine lv_iload_n hx hb dJ1_indexOf_4cfef_15 rfl (lv_at hl 3 rfl) ?_
    refine lv_aload_n hx hb dJ1_indexOf_4cfef_16 rfl (lv_at hl 1 rfl) ?_
    refine va_tlen hx hb (hXS.tb f0) va_S.rf (v := 3) rfl dJ1_indexOf_4cfef_17 ?_
    refine m_min C hl.1 tw_3_185 (Nat.le_of_ble_eq_true rfl) (Nat.le_of_ble_eq_true rfl) dJ1_indexOf_4cfef_18 ?_
    refine lv_topi (fun v4 ev4 => ?_)
    have hB := hB v4 ev4
    refine lv_istore_n (lv' := [(3, .int v4), (2, .int v3), (0, .ref (SA (3 + r0))), (1, .int x1)]) hx hb dJ1_indexOf_4cfef_21 rfl hl (by decide) rfl (fun ls hl => ?_)
    refine lv_iload_n hx hb dJ1_indexOf_4cfef_22 rfl (lv_at hl 1 rfl) ?_
    refine lv_iload_n hx hb dJ1_indexOf_4cfef_23 rfl (lv_at hl 0 rfl) ?_
    refine lv_icmp_lt (tgt := 29) hx hb dJ1_indexOf_4cfef_24 (by decide) (fun q5 => ?_) (fun q5 => ?_)
    · have hB := hB.1 q5
      refine lv_aload_n hx hb dJ1_indexOf_4cfef_29 rfl (lv_at hl 2 rfl) ?_
      refine lv_iload_n hx hb dJ1_indexOf_4cfef_30 rfl (lv_at hl 3 rfl) ?_
      refine lv_iload_n hx hb dJ1_indexOf_4cfef_31 rfl (lv_at hl 1 rfl) ?_
      refine lv_iload_n hx hb dJ1_indexOf_4cfef_32 rfl (lv_at hl 0 rfl) ?_
      refine v_J1_indexOfChar_4cfef C hl.1 hXS va_S.rf f0 tw_3_186 ⟨Nat.le_of_ble_eq_true rfl, Nat.le_of_ble_eq_true rfl⟩ ⟨Nat.le_refl _, Nat.le_refl _⟩ (Nat.le_of_ble_eq_true rfl) dJ1_indexOf_4cfef_33 hB (fun v6 hB => ?_)
      exact e_iR C hr hlk dJ1_indexOf_4cfef_36 hB
    · have hB := hB.2 q5
      refine lv_iconst (v := (-1)) hx hb dJ1_indexOf_4cfef_27 (by decide) ?_
      exact e_iR C hr hlk dJ1_indexOf_4cfef_28 hB
  · have hB := hB.2 q2
    refine lv_iconst (v := (-1)) hx hb dJ1_indexOf_4cfef_7 (by decide) ?_
    exact e_iR C hr hlk dJ1_indexOf_4cfef_8 hB
set_option maxRecDepth 100000 in
set_option maxHeartbeats 4000000 in
theorem v_J1_indexOf_4cfef {SA : Nat → Nat} {r0 : Nat} {x1 : Int32} {x2 : Int32} {x3 : Int32} {Q1 : Int32 → Prop} (C : CallFix p m c cc nL s args TB own) (hls : ls.size = nL) (hXS : XS SA A s s.heap) (hS : va_S A s.heap H locs) (f0 : r0 < 2) (hlink : Cond.methodLink own index yJ1_indexOf_4cfef ∈ TB) (hR : 2 + 1 ≤ R.frames ∧ 8 + (4 + 11) + 48 * 2 ≤ R.locals) (hcs : cells ≤ R.cells ∧ slots ≤ R.slots) (hcat : (rest.map fun v => v.category).sum ≤ 8) (hdg : decode cc pc = .ok (.invokestatic index, 3)) (hB : P_J1_indexOf_4cfef r0 x1 x2 x3 Q1)
    (kk : ∀ r : Int32, Q1 r → W p l e R s m args below meth c H locs cells slots QQ (F0 m (pc + 3) ls (.int r :: rest))) : W p l e R s m args below meth c H locs cells slots QQ (F0 m pc ls (.int x3 :: .int x2 :: .int x1 :: .ref (SA (3 + r0)) :: rest)) :=
  k_Sx (n := 4) (c_J1_indexOf_4cfef f0 hB) tw_3_180 tw_3_179 tw_1_17 ⟨by decide, by decide, by decide +kernel⟩ rfl C hls hXS hS hlink hR hcs hcat rfl hdg kk
def P_J0_indexOf_7cf53 (g : Nat) (x1 : Int32) (x2 : Int32) (Q1 : Int32 → Prop) : Prop :=
  P_J0_isLatin1_aae02 g (fun v1 => ((v1 = 0 → False) ∧
    (¬ v1 = 0 → P_J0_length_8abf5 g (fun v3 => P_J1_indexOf_4cfef g x1 x2 v3 (fun v4 => Q1 v4)))))
set_option maxRecDepth 100000 in
set_option maxHeartbeats 4000000 in
theorem c_J0_indexOf_7cf53 {l : Launch} {SA : Nat → Nat} {g : Nat} {x1 : Int32} {x2 : Int32} {Q1 : Int32 → Prop} (hg : g < 2) (hB : P_J0_indexOf_7cf53 g x1 x2 Q1) : Met l yJ0_indexOf_7cf53 (Cond.code yJ0_indexOf_7cf53 cJ0_indexOf_7cf53 3 (some .int) :: TB) (RM 6) (va_Pc [.ref (SA (1 + g)), .int x1, .int x2] (UxP SA)) (QcR Q1) 0 0 (fun _ => False) := by
  refine st_Sx (by decide) (Nat.le_of_ble_eq_true rfl) (fun p e s m args below meth c ls C hr hlk hXS hl => ?_)
  have hl : lv_has ls 3 [(0, .ref (SA (1 + g))), (1, .int x1), (2, .int x2)] := hl
  have hx := C.1
  have hb := C.2.1
  delta P_J0_indexOf_7cf53 at hB
  refine lv_aload_n hx hb dJ0_indexOf_7cf53_0 rfl (lv_at hl 0 rfl) ?_
  refine v_J0_isLatin1_aae02 C hl.1 hXS va_S.rf hg tw_3_164 ⟨Nat.le_of_ble_eq_true rfl, Nat.le_of_ble_eq_true rfl⟩ ⟨Nat.le_refl _, Nat.le_refl _⟩ (Nat.le_of_ble_eq_true rfl) dJ0_indexOf_7cf53_1 hB (fun v1 hB => ?_)
  refine lv_if_eq (tgt := 23) hx hb dJ0_indexOf_7cf53_4 (by decide) (fun q2 => ?_) (fun q2 => ?_)
  · exact (hB.1 q2).elim
  · have hB := hB.2 q2
    refine lv_aload_n hx hb dJ0_indexOf_7cf53_7 rfl (lv_at hl 0 rfl) ?_
    refine vk_getf hx hb (hXS.2.2.2.1.1 _ hg).2.2.1 va_S.rf C.2.2.2.1 (C.2.2.2.2 _ tw_7_144) (fun _ h => h) dJ0_indexOf_7cf53_8 ?_
    refine lv_iload_n hx hb dJ0_indexOf_7cf53_11 rfl (lv_at hl 1 rfl) ?_
    refine lv_iload_n hx hb dJ0_indexOf_7cf53_12 rfl (lv_at hl 2 rfl) ?_
    refine lv_aload_n hx hb dJ0_indexOf_7cf53_13 rfl (lv_at hl 0 rfl) ?_
    refine v_J0_length_8abf5 C hl.1 hXS va_S.rf hg tw_3_170 ⟨Nat.le_of_ble_eq_true rfl, Nat.le_of_ble_eq_true rfl⟩ ⟨Nat.le_refl _, Nat.le_refl _⟩ (Nat.le_of_ble_eq_true rfl) dJ0_indexOf_7cf53_14 hB (fun v3 hB => ?_)
    refine v_J1_indexOf_4cfef C hl.1 hXS va_S.rf hg tw_3_178 ⟨Nat.le_of_ble_eq_true rfl, Nat.le_of_ble_eq_true rfl⟩ ⟨Nat.le_refl _, Nat.le_refl _⟩ (Nat.le_of_ble_eq_true rfl) dJ0_indexOf_7cf53_17 hB (fun v4 hB => ?_)
    refine lv_goto (tgt := 36) hx hb dJ0_indexOf_7cf53_20 (by decide) ?_
    exact e_iR C hr hlk dJ0_indexOf_7cf53_36 hB
set_option maxRecDepth 100000 in
set_option maxHeartbeats 4000000 in
theorem v_J0_indexOf_7cf53 {SA : Nat → Nat} {g : Nat} {x1 : Int32} {x2 : Int32} {Q1 : Int32 → Prop} (C : CallFix p m c cc nL s args TB own) (hls : ls.size = nL) (hXS : XS SA A s s.heap) (hS : va_S A s.heap H locs) (hg : g < 2) (hlink : Cond.methodLink own index yJ0_indexOf_7cf53 ∈ TB) (hR : 6 + 1 ≤ R.frames ∧ 8 + (3 + 11) + 48 * 6 ≤ R.locals) (hcs : cells ≤ R.cells ∧ slots ≤ R.slots) (hcat : (rest.map fun v => v.category).sum ≤ 8) (hdg : decode cc pc = .ok (.invokevirtual index, 3)) (hB : P_J0_indexOf_7cf53 g x1 x2 Q1)
    (kk : ∀ r : Int32, Q1 r → W p l e R s m args below meth c H locs cells slots QQ (F0 m (pc + 3) ls (.int r :: rest))) : W p l e R s m args below meth c H locs cells slots QQ (F0 m pc ls (.int x2 :: .int x1 :: .ref (SA (1 + g)) :: rest)) :=
  k_Vs (n := 2) (c_J0_indexOf_7cf53 hg hB) tw_3_163 tw_3_161 tw_3_162 tw_1_16 ⟨rfl, by decide, by decide, by decide +kernel⟩ rfl hg C hls hXS hS hlink hR hcs hcat rfl hdg kk
def P_J0_indexOf_0f7a4 (g : Nat) (x1 : Int32) (Q1 : Int32 → Prop) : Prop :=
  P_J0_indexOf_7cf53 g x1 0 (fun v1 => Q1 v1)
set_option maxRecDepth 100000 in
set_option maxHeartbeats 4000000 in
theorem c_J0_indexOf_0f7a4 {l : Launch} {SA : Nat → Nat} {g : Nat} {x1 : Int32} {Q1 : Int32 → Prop} (hg : g < 2) (hB : P_J0_indexOf_0f7a4 g x1 Q1) : Met l yJ0_indexOf_0f7a4 (Cond.code yJ0_indexOf_0f7a4 cJ0_indexOf_0f7a4 2 (some .int) :: TB) (RM 7) (va_Pc [.ref (SA (1 + g)), .int x1] (UxP SA)) (QcR Q1) 0 0 (fun _ => False) := by
  refine st_Sx (by decide) (Nat.le_of_ble_eq_true rfl) (fun p e s m args below meth c ls C hr hlk hXS hl => ?_)
  have hl : lv_has ls 2 [(0, .ref (SA (1 + g))), (1, .int x1)] := hl
  have hx := C.1
  have hb := C.2.1
  delta P_J0_indexOf_0f7a4 at hB
  refine lv_aload_n hx hb dJ0_indexOf_0f7a4_0 rfl (lv_at hl 0 rfl) ?_
  refine lv_iload_n hx hb dJ0_indexOf_0f7a4_1 rfl (lv_at hl 1 rfl) ?_
  refine lv_iconst (v := 0) hx hb dJ0_indexOf_0f7a4_2 (by decide) ?_
  refine v_J0_indexOf_7cf53 C hl.1 hXS va_S.rf hg tw_3_160 ⟨Nat.le_of_ble_eq_true rfl, Nat.le_of_ble_eq_true rfl⟩ ⟨Nat.le_refl _, Nat.le_refl _⟩ (Nat.le_of_ble_eq_true rfl) dJ0_indexOf_0f7a4_3 hB (fun v1 hB => ?_)
  exact e_iR C hr hlk dJ0_indexOf_0f7a4_6 hB
set_option maxRecDepth 100000 in
set_option maxHeartbeats 4000000 in
theorem v_J0_indexOf_0f7a4 {SA : Nat → Nat} {g : Nat} {x1 : Int32} {Q1 : Int32 → Prop} (C : CallFix p m c cc nL s args TB own) (hls : ls.size = nL) (hXS : XS SA A s s.heap) (hS : va_S A s.heap H locs) (hg : g < 2) (hlink : Cond.methodLink own index yJ0_indexOf_0f7a4 ∈ TB) (hR : 7 + 1 ≤ R.frames ∧ 8 + (2 + 11) + 48 * 7 ≤ R.locals) (hcs : cells ≤ R.cells ∧ slots ≤ R.slots) (hcat : (rest.map fun v => v.category).sum ≤ 8) (hdg : decode cc pc = .ok (.invokevirtual index, 3)) (hB : P_J0_indexOf_0f7a4 g x1 Q1)
    (kk : ∀ r : Int32, Q1 r → W p l e R s m args below meth c H locs cells slots QQ (F0 m (pc + 3) ls (.int r :: rest))) : W p l e R s m args below meth c H locs cells slots QQ (F0 m pc ls (.int x1 :: .ref (SA (1 + g)) :: rest)) :=
  k_Vs (n := 1) (c_J0_indexOf_0f7a4 hg hB) tw_3_159 tw_3_157 tw_3_158 tw_1_16 ⟨rfl, by decide, by decide, by decide +kernel⟩ rfl hg C hls hXS hS hlink hR hcs hcat rfl hdg kk
def P_X10_isName (r0 : Nat) (x1 : Int32) (Q1 : Int32 → Prop) : Prop :=
  P_J0_indexOf_0f7a4 r0 ((x1.toUInt32 % 65536).toInt32) (fun v1 => ((v1 < 0 → Q1 0) ∧
    (¬ v1 < 0 → Q1 1)))
set_option maxRecDepth 100000 in
set_option maxHeartbeats 4000000 in
theorem c_X10_isName {l : Launch} {SA : Nat → Nat} {r0 : Nat} {x1 : Int32} {Q1 : Int32 → Prop} (f0 : r0 < 2) (hB : P_X10_isName r0 x1 Q1) : Met l yX10_isName (Cond.code yX10_isName cX10_isName 2 (some .boolean) :: TB) (RM 8) (va_Pc [.ref (SA (1 + r0)), .int x1] (UxP SA)) (QcR Q1) 0 0 (fun _ => False) := by
  refine st_Sx (by decide) (Nat.le_of_ble_eq_true rfl) (fun p e s m args below meth c ls C hr hlk hXS hl => ?_)
  have hl : lv_has ls 2 [(0, .ref (SA (1 + r0))), (1, .int x1)] := hl
  have hx := C.1
  have hb := C.2.1
  delta P_X10_isName at hB
  refine lv_aload_n hx hb dX10_isName_0 rfl (lv_at hl 0 rfl) ?_
  refine lv_iload_n hx hb dX10_isName_1 rfl (lv_at hl 1 rfl) ?_
  refine lv_i2c hx hb dX10_isName_2 rfl ?_
  refine v_J0_indexOf_0f7a4 C hl.1 hXS va_S.rf f0 tw_3_156 ⟨Nat.le_of_ble_eq_true rfl, Nat.le_of_ble_eq_true rfl⟩ ⟨Nat.le_refl _, Nat.le_refl _⟩ (Nat.le_of_ble_eq_true rfl) dX10_isName_3 hB (fun v1 hB => ?_)
  refine lv_if_lt (tgt := 13) hx hb dX10_isName_6 (by decide) (fun q2 => ?_) (fun q2 => ?_)
  · have hB := hB.1 q2
    refine lv_iconst (v := 0) hx hb dX10_isName_13 (by decide) ?_
    exact e_zR C hr hlk dX10_isName_14 (Or.inl rfl) hB
  · have hB := hB.2 q2
    refine lv_iconst (v := 1) hx hb dX10_isName_9 (by decide) ?_
    refine lv_goto (tgt := 14) hx hb dX10_isName_10 (by decide) ?_
    exact e_zR C hr hlk dX10_isName_14 (Or.inr rfl) hB
set_option maxRecDepth 100000 in
set_option maxHeartbeats 4000000 in
theorem v_X10_isName {SA : Nat → Nat} {r0 : Nat} {x1 : Int32} {Q1 : Int32 → Prop} (C : CallFix p m c cc nL s args TB own) (hls : ls.size = nL) (hXS : XS SA A s s.heap) (hS : va_S A s.heap H locs) (f0 : r0 < 2) (hlink : Cond.methodLink own index yX10_isName ∈ TB) (hR : 8 + 1 ≤ R.frames ∧ 8 + (2 + 11) + 48 * 8 ≤ R.locals) (hcs : cells ≤ R.cells ∧ slots ≤ R.slots) (hcat : (rest.map fun v => v.category).sum ≤ 8) (hdg : decode cc pc = .ok (.invokestatic index, 3)) (hB : P_X10_isName r0 x1 Q1)
    (kk : ∀ r : Int32, Q1 r → W p l e R s m args below meth c H locs cells slots QQ (F0 m (pc + 3) ls (.int r :: rest))) : W p l e R s m args below meth c H locs cells slots QQ (F0 m pc ls (.int x1 :: .ref (SA (1 + r0)) :: rest)) :=
  k_Sx (n := 2) (c_X10_isName f0 hB) tw_3_155 tw_3_154 tw_1_15 ⟨by decide, by decide, by decide +kernel⟩ rfl C hls hXS hS hlink hR hcs hcat rfl hdg kk
def B_X10_read_167 (K : Nat) (g : Nat) (r1 : Nat) (Q1 : Int32 → Mem → Prop) (X18 : Int32 → Int32 → Mem → Prop) (r3 : Nat) (x4 : Int32) (x7 : Int32) (M : Mem) : Prop :=
  X18 x4 x7 M
def B_X10_read_76 (K : Nat) (g : Nat) (r1 : Nat) (Q1 : Int32 → Mem → Prop) (X18 : Int32 → Int32 → Mem → Prop) (r3 : Nat) (x6 : Int32) (x7 : Int32) (M : Mem) : Prop :=
  ((x6 = 41 → B_X10_read_167 K g r1 Q1 X18 r3 0 x7 M) ∧
    (¬ x6 = 41 → B_X10_read_167 K g r1 Q1 X18 r3 1 x7 M))
def B_X10_read_18 (K : Nat) (g : Nat) (r1 : Nat) (Q1 : Int32 → Mem → Prop) (r3 : Nat) (x4 : Int32) (x5 : Int32) (M : Mem) : Prop :=
  ∀ X18 : Int32 → Int32 → Mem → Prop, (∀ (x4 : Int32) (x5 : Int32) (M : Mem), ((((M r1 1) ≤ x5 → ((¬ x4 = 0 → Q1 (M r1 1) M) ∧
      (x4 = 0 → (((M g 6) ≤ 0 → P_X10_settleDownTo K M g 1 (fun M5 => Q1 (-1) M5)) ∧
        (¬ (M g 6) ≤ 0 → Q1 (M r1 1) M))))) ∧
    (¬ (M r1 1) ≤ x5 → vp_in x5 (rLen r1) ∧ ∀ x6_7 : Int32, x6_7 = M (r1 + 1) x5.toNatClampNeg → ∀ x7_8 : Int32, x7_8 = x5 + 1 → ((¬ x4 = 0 → P_X10_isDigit x6_7 (fun v10 => ((v10 = 0 → P_X10_isName r3 x6_7 (fun v12 => ((v12 = 0 → P_X10_opens K M g x6_7 (fun v14 M15 => ((¬ v14 = 0 → B_X10_read_167 K g r1 Q1 X18 r3 x4 x7_8 M15) ∧
            (v14 = 0 → Q1 x5 M15)))) ∧
          (¬ v12 = 0 → P_J0_indexOf_0f7a4 r3 ((x6_7.toUInt32 % 65536).toInt32) (fun v17 => P_X10_addValue K M g ((-1) - v17) (fun M18 => B_X10_read_167 K g r1 Q1 X18 r3 0 x7_8 M18)))))) ∧
        (¬ v10 = 0 → P_X10_numberEnd K M r1 x5 (fun v19 => P_X10_numberOf K M r1 x5 v19 (fun v20 => P_X10_addValue K M g v20 (fun M21 => B_X10_read_167 K g r1 Q1 X18 r3 0 v19 M21))))))) ∧
      (x4 = 0 → ((¬ x6_7 = 41 → P_X10_joins K M g x6_7 (fun v23 M24 => ((¬ v23 = 0 → B_X10_read_76 K g r1 Q1 X18 r3 x6_7 x7_8 M24) ∧
          (v23 = 0 → Q1 x5 M24)))) ∧
        (x6_7 = 41 → P_X10_closes K M g (fun v27 M28 => ((v27 = 0 → Q1 x5 M28) ∧
          (¬ v27 = 0 → B_X10_read_76 K g r1 Q1 X18 r3 x6_7 x7_8 M28)))))))))) → X18 x4 x5 M) → X18 x4 x5 M
def B_X10_read_11 (K : Nat) (g : Nat) (r1 : Nat) (Q1 : Int32 → Mem → Prop) (s0 : Nat) (M : Mem) : Prop :=
  B_X10_read_18 K g r1 Q1 s0 1 0 M
def P_X10_read (K : Nat) (M : Mem) (g : Nat) (r1 : Nat) (x2 : Int32) (Q1 : Int32 → Mem → Prop) : Prop :=
  ((¬ x2 = 0 → B_X10_read_11 K g r1 Q1 1 M) ∧
    (x2 = 0 → B_X10_read_11 K g r1 Q1 0 M))
set_option maxRecDepth 100000 in
set_option maxHeartbeats 4000000 in
theorem w_X10_read_167 {SA : Nat → Nat} {K : Nat} {g : Nat} {r1 : Nat} {M : Mem} {Q1 : Int32 → Mem → Prop} {X18 : Int32 → Int32 → Mem → Prop} {r3 : Nat} {x4 : Int32} {x7 : Int32} (C : Cx T D p s m args c cX10_read 8 "OneOfTwo$Text") (hr : meth.sig.returnType = (some .int)) (hlk : meth.locks = false) (Z : Zz EC T D ad (69 + K) A s.heap M H locs) (hXS : XS SA A s s.heap) (hg : isT K g) (f1 : isR r1) (hX18 : ∀ (x4 : Int32) (x5 : Int32) (M : Mem), X18 x4 x5 M → ∀ (H : Heap) (locs : List Loc) (ls : Array Slot), Zz EC T D ad (69 + K) A s.heap M H locs → lv_has ls 8 [(0, .ref (ad g)), (1, .ref (ad r1)), (3, .ref (SA (1 + r3))), (4, .int x4), (5, .int x5)] → W p l e (RM 9) s m args below meth c H locs 0 0 (MQ below (QcW EC T D ad (69 + K) A Q1) args s 0 0 A) (F0 m 18 ls [])) (f3 : r3 < 2) {ls : Array Slot} (hl : lv_has ls 8 [(0, .ref (ad g)), (1, .ref (ad r1)), (3, .ref (SA (1 + r3))), (4, .int x4), (7, .int x7)]) (hB : B_X10_read_167 K g r1 Q1 X18 r3 x4 x7 M) : W p l e (RM 9) s m args below meth c H locs 0 0 (MQ below (QcW EC T D ad (69 + K) A Q1) args s 0 0 A) (F0 m 167 ls []) := by
  have hx := C.x
  have hb := C.b
  delta B_X10_read_167 at hB
  refine lv_iload hx hb dX10_read_167 (lv_at hl 4 rfl) ?_
  refine lv_istore (lv' := [(5, .int x7), (0, .ref (ad g)), (1, .ref (ad r1)), (3, .ref (SA (1 + r3))), (4, .int x4), (7, .int x7)]) hx hb dX10_read_169 hl (by decide) rfl (fun ls hl => ?_)
  refine lv_goto (tgt := 18) hx hb dX10_read_171 (by decide) ?_
  exact hX18 _ _ _ hB _ _ _ Z (lv_sub hl [1, 2, 3, 4, 0] rfl)
set_option maxRecDepth 100000 in
set_option maxHeartbeats 4000000 in
theorem w_X10_read_76 {SA : Nat → Nat} {K : Nat} {g : Nat} {r1 : Nat} {M : Mem} {Q1 : Int32 → Mem → Prop} {X18 : Int32 → Int32 → Mem → Prop} {r3 : Nat} {x6 : Int32} {x7 : Int32} (C : Cx T D p s m args c cX10_read 8 "OneOfTwo$Text") (hr : meth.sig.returnType = (some .int)) (hlk : meth.locks = false) (Z : Zz EC T D ad (69 + K) A s.heap M H locs) (hXS : XS SA A s s.heap) (hg : isT K g) (f1 : isR r1) (hX18 : ∀ (x4 : Int32) (x5 : Int32) (M : Mem), X18 x4 x5 M → ∀ (H : Heap) (locs : List Loc) (ls : Array Slot), Zz EC T D ad (69 + K) A s.heap M H locs → lv_has ls 8 [(0, .ref (ad g)), (1, .ref (ad r1)), (3, .ref (SA (1 + r3))), (4, .int x4), (5, .int x5)] → W p l e (RM 9) s m args below meth c H locs 0 0 (MQ below (QcW EC T D ad (69 + K) A Q1) args s 0 0 A) (F0 m 18 ls [])) (f3 : r3 < 2) {ls : Array Slot} (hl : lv_has ls 8 [(0, .ref (ad g)), (1, .ref (ad r1)), (3, .ref (SA (1 + r3))), (6, .int x6), (7, .int x7)]) (hB : B_X10_read_76 K g r1 Q1 X18 r3 x6 x7 M) : W p l e (RM 9) s m args below meth c H locs 0 0 (MQ below (QcW EC T D ad (69 + K) A Q1) args s 0 0 A) (F0 m 76 ls []) := by
  have hx := C.x
  have hb := C.b
  delta B_X10_read_76 at hB
  refine lv_iload hx hb dX10_read_76 (lv_at hl 3 rfl) ?_
  refine lv_bipush (v := 41) hx hb dX10_read_78 (by decide) ?_
  refine lv_icmp_eq (tgt := 87) hx hb dX10_read_80 (by decide) (fun q26 => ?_) (fun q26 => ?_)
  · have hB := hB.1 q26
    refine lv_iconst (v := 0) hx hb dX10_read_87 (by decide) ?_
    refine lv_istore (lv' := [(4, .int 0), (0, .ref (ad g)), (1, .ref (ad r1)), (3, .ref (SA (1 + r3))), (6, .int x6), (7, .int x7)]) hx hb dX10_read_88 hl (by decide) rfl (fun ls hl => ?_)
    refine lv_goto (tgt := 167) hx hb dX10_read_90 (by decide) ?_
    exact w_X10_read_167 C hr hlk Z hXS hg f1 hX18 f3 (lv_sub hl [1, 2, 3, 0, 5] rfl) hB
  · have hB := hB.2 q26
    refine lv_iconst (v := 1) hx hb dX10_read_83 (by decide) ?_
    refine lv_goto (tgt := 88) hx hb dX10_read_84 (by decide) ?_
    refine lv_istore (lv' := [(4, .int 1), (0, .ref (ad g)), (1, .ref (ad r1)), (3, .ref (SA (1 + r3))), (6, .int x6), (7, .int x7)]) hx hb dX10_read_88 hl (by decide) rfl (fun ls hl => ?_)
    refine lv_goto (tgt := 167) hx hb dX10_read_90 (by decide) ?_
    exact w_X10_read_167 C hr hlk Z hXS hg f1 hX18 f3 (lv_sub hl [1, 2, 3, 0, 5] rfl) hB
set_option maxRecDepth 100000 in
set_option maxHeartbeats 4000000 in
theorem w_X10_read_18 {SA : Nat → Nat} {K : Nat} {g : Nat} {r1 : Nat} {M : Mem} {Q1 : Int32 → Mem → Prop} {r3 : Nat} {x4 : Int32} {x5 : Int32} (C : Cx T D p s m args c cX10_read 8 "OneOfTwo$Text") (hr : meth.sig.returnType = (some .int)) (hlk : meth.locks = false) (Z : Zz EC T D ad (69 + K) A s.heap M H locs) (hXS : XS SA A s s.heap) (hg : isT K g) (f1 : isR r1) (f3 : r3 < 2) {ls : Array Slot} (hl : lv_has ls 8 [(0, .ref (ad g)), (1, .ref (ad r1)), (3, .ref (SA (1 + r3))), (4, .int x4), (5, .int x5)]) (hB : B_X10_read_18 K g r1 Q1 r3 x4 x5 M) : W p l e (RM 9) s m args below meth c H locs 0 0 (MQ below (QcW EC T D ad (69 + K) A Q1) args s 0 0 A) (F0 m 18 ls []) := by
  delta B_X10_read_18 at hB
  obtain ⟨X18, hX18, hY18⟩ : ∃ X18 : Int32 → Int32 → Mem → Prop, (∀ (x4 : Int32) (x5 : Int32) (M : Mem), X18 x4 x5 M → ∀ (H : Heap) (locs : List Loc) (ls : Array Slot), Zz EC T D ad (69 + K) A s.heap M H locs → lv_has ls 8 [(0, .ref (ad g)), (1, .ref (ad r1)), (3, .ref (SA (1 + r3))), (4, .int x4), (5, .int x5)] → W p l e (RM 9) s m args below meth c H locs 0 0 (MQ below (QcW EC T D ad (69 + K) A Q1) args s 0 0 A) (F0 m 18 ls [])) ∧ (∀ (x4 : Int32) (x5 : Int32) (M : Mem), (∀ (H : Heap) (locs : List Loc) (ls : Array Slot), Zz EC T D ad (69 + K) A s.heap M H locs → lv_has ls 8 [(0, .ref (ad g)), (1, .ref (ad r1)), (3, .ref (SA (1 + r3))), (4, .int x4), (5, .int x5)] → W p l e (RM 9) s m args below meth c H locs 0 0 (MQ below (QcW EC T D ad (69 + K) A Q1) args s 0 0 A) (F0 m 18 ls [])) → X18 x4 x5 M) := ⟨fun (x4 : Int32) (x5 : Int32) (M : Mem) => ∀ (H : Heap) (locs : List Loc) (ls : Array Slot), Zz EC T D ad (69 + K) A s.heap M H locs → lv_has ls 8 [(0, .ref (ad g)), (1, .ref (ad r1)), (3, .ref (SA (1 + r3))), (4, .int x4), (5, .int x5)] → W p l e (RM 9) s m args below meth c H locs 0 0 (MQ below (QcW EC T D ad (69 + K) A Q1) args s 0 0 A) (F0 m 18 ls []), fun _ _ _ h => h, fun _ _ _ h => h⟩
  refine hX18 _ _ _ (hB X18 (fun x4 x5 M hB => hY18 _ _ _ (fun H locs ls Z hl => ?_))) _ _ _ Z hl
  have hx := C.x
  have hb := C.b
  refine lv_iload hx hb dX10_read_18 (lv_at hl 4 rfl) ?_
  refine lv_aload_n hx hb dX10_read_20 rfl (lv_at hl 1 rfl) ?_
  refine gf_X4_1 C Z.1 f1 tw_1_45 dX10_read_21 ?_
  refine lv_icmp_ge (tgt := 174) hx hb dX10_read_24 (by decide) (fun q2 => ?_) (fun q2 => ?_)
  · have hB := hB.1 q2
    refine lv_iload hx hb dX10_read_174 (lv_at hl 3 rfl) ?_
    refine lv_if_ne (tgt := 186) hx hb dX10_read_176 (by decide) (fun q3 => ?_) (fun q3 => ?_)
    · have hB := hB.1 q3
      refine lv_aload_n hx hb dX10_read_186 rfl (lv_at hl 1 rfl) ?_
      refine gf_X4_1 C Z.1 f1 tw_1_45 dX10_read_187 ?_
      exact e_iW C hr hlk Z dX10_read_190 hB
    · have hB := hB.2 q3
      refine lv_aload_n hx hb dX10_read_179 rfl (lv_at hl 0 rfl) ?_
      refine gf_X10_6 C Z.1 hg tw_3_90 dX10_read_180 ?_
      refine lv_if_le (tgt := 191) hx hb dX10_read_183 (by decide) (fun q4 => ?_) (fun q4 => ?_)
      · have hB := hB.1 q4
        refine lv_aload_n hx hb dX10_read_191 rfl (lv_at hl 0 rfl) ?_
        refine lv_iconst (v := 1) hx hb dX10_read_192 (by decide) ?_
        refine v_X10_settleDownTo C hl.1 Z hg tw_3_116 ⟨Nat.le_of_ble_eq_true rfl, Nat.le_of_ble_eq_true rfl⟩ ⟨Nat.le_refl _, Nat.le_refl _⟩ (Nat.le_of_ble_eq_true rfl) dX10_read_193 hB (fun M5 H locs hB Z => ?_)
        refine lv_iconst (v := (-1)) hx hb dX10_read_196 (by decide) ?_
        exact e_iW C hr hlk Z dX10_read_197 hB
      · have hB := hB.2 q4
        refine lv_aload_n hx hb dX10_read_186 rfl (lv_at hl 1 rfl) ?_
        refine gf_X4_1 C Z.1 f1 tw_1_45 dX10_read_187 ?_
        exact e_iW C hr hlk Z dX10_read_190 hB
  · have hB := hB.2 q2
    refine lv_aload_n hx hb dX10_read_27 rfl (lv_at hl 1 rfl) ?_
    refine gf_X4_0 C Z.1 f1 tw_1_41 dX10_read_28 ?_
    refine lv_iload hx hb dX10_read_31 (lv_at hl 4 rfl) ?_
    obtain ⟨q6, hB⟩ := hB
    refine a_ld C Z.1 (aR f1) q6 dX10_read_33 ?_
    refine lv_topi (fun x6_7 ex6_7 => ?_)
    have hB := hB x6_7 ex6_7
    refine lv_istore (lv' := [(6, .int x6_7), (0, .ref (ad g)), (1, .ref (ad r1)), (3, .ref (SA (1 + r3))), (4, .int x4), (5, .int x5)]) hx hb dX10_read_34 hl (by decide) rfl (fun ls hl => ?_)
    refine lv_iload hx hb dX10_read_36 (lv_at hl 5 rfl) ?_
    refine lv_iconst (v := 1) hx hb dX10_read_38 (by decide) ?_
    refine lv_iadd hx hb dX10_read_39 ?_
    refine lv_topi (fun x7_8 ex7_8 => ?_)
    have hB := hB x7_8 ex7_8
    refine lv_istore (lv' := [(7, .int x7_8), (6, .int x6_7), (0, .ref (ad g)), (1, .ref (ad r1)), (3, .ref (SA (1 + r3))), (4, .int x4), (5, .int x5)]) hx hb dX10_read_40 hl (by decide) rfl (fun ls hl => ?_)
    refine lv_iload hx hb dX10_read_42 (lv_at hl 5 rfl) ?_
    refine lv_if_ne (tgt := 93) hx hb dX10_read_44 (by decide) (fun q9 => ?_) (fun q9 => ?_)
    · have hB := hB.1 q9
      refine lv_iload hx hb dX10_read_93 (lv_at hl 1 rfl) ?_
      refine v_X10_isDigit C.1 hl.1 tw_3_139 ⟨Nat.le_of_ble_eq_true rfl, Nat.le_of_ble_eq_true rfl⟩ ⟨Nat.le_refl _, Nat.le_refl _⟩ (Nat.le_of_ble_eq_true rfl) dX10_read_95 hB (fun v10 hB => ?_)
      refine lv_if_eq (tgt := 127) hx hb dX10_read_98 (by decide) (fun q11 => ?_) (fun q11 => ?_)
      · have hB := hB.1 q11
        refine lv_aload_n hx hb dX10_read_127 rfl (lv_at hl 4 rfl) ?_
        refine lv_iload hx hb dX10_read_128 (lv_at hl 1 rfl) ?_
        refine v_X10_isName C.1 hl.1 hXS Z.2.2.2.2 f3 tw_3_153 ⟨Nat.le_of_ble_eq_true rfl, Nat.le_of_ble_eq_true rfl⟩ ⟨Nat.le_refl _, Nat.le_refl _⟩ (Nat.le_of_ble_eq_true rfl) dX10_read_130 hB (fun v12 hB => ?_)
        refine lv_if_eq (tgt := 155) hx hb dX10_read_133 (by decide) (fun q13 => ?_) (fun q13 => ?_)
        · have hB := hB.1 q13
          refine lv_aload_n hx hb dX10_read_155 rfl (lv_at hl 2 rfl) ?_
          refine lv_iload hx hb dX10_read_156 (lv_at hl 1 rfl) ?_
          refine v_X10_opens C hl.1 Z hg tw_3_238 ⟨Nat.le_of_ble_eq_true rfl, Nat.le_of_ble_eq_true rfl⟩ ⟨Nat.le_refl _, Nat.le_refl _⟩ (Nat.le_of_ble_eq_true rfl) dX10_read_158 hB (fun v14 M15 H locs hB Z => ?_)
          refine lv_if_ne (tgt := 167) hx hb dX10_read_161 (by decide) (fun q16 => ?_) (fun q16 => ?_)
          · have hB := hB.1 q16
            exact w_X10_read_167 C hr hlk Z hXS hg f1 hX18 f3 (lv_sub hl [2, 3, 4, 5, 0] rfl) hB
          · have hB := hB.2 q16
            refine lv_iload hx hb dX10_read_164 (lv_at hl 6 rfl) ?_
            exact e_iW C hr hlk Z dX10_read_166 hB
        · have hB := hB.2 q13
          refine lv_aload_n hx hb dX10_read_136 rfl (lv_at hl 2 rfl) ?_
          refine lv_iconst (v := (-1)) hx hb dX10_read_137 (by decide) ?_
          refine lv_aload_n hx hb dX10_read_138 rfl (lv_at hl 4 rfl) ?_
          refine lv_iload hx hb dX10_read_139 (lv_at hl 1 rfl) ?_
          refine lv_i2c hx hb dX10_read_141 rfl ?_
          refine v_J0_indexOf_0f7a4 C.1 hl.1 hXS Z.2.2.2.2 f3 tw_3_156 ⟨Nat.le_of_ble_eq_true rfl, Nat.le_of_ble_eq_true rfl⟩ ⟨Nat.le_refl _, Nat.le_refl _⟩ (Nat.le_of_ble_eq_true rfl) dX10_read_142 hB (fun v17 hB => ?_)
          refine lv_isub hx hb dX10_read_145 ?_
          refine v_X10_addValue C hl.1 Z hg tw_3_149 ⟨Nat.le_of_ble_eq_true rfl, Nat.le_of_ble_eq_true rfl⟩ ⟨Nat.le_refl _, Nat.le_refl _⟩ (Nat.le_of_ble_eq_true rfl) dX10_read_146 hB (fun M18 H locs hB Z => ?_)
          refine lv_iconst (v := 0) hx hb dX10_read_149 (by decide) ?_
          refine lv_istore (lv' := [(4, .int 0), (7, .int x7_8), (6, .int x6_7), (0, .ref (ad g)), (1, .ref (ad r1)), (3, .ref (SA (1 + r3))), (5, .int x5)]) hx hb dX10_read_150 hl (by decide) rfl (fun ls hl => ?_)
          refine lv_goto (tgt := 167) hx hb dX10_read_152 (by decide) ?_
          exact w_X10_read_167 C hr hlk Z hXS hg f1 hX18 f3 (lv_sub hl [3, 4, 5, 0, 1] rfl) hB
      · have hB := hB.2 q11
        refine lv_aload_n hx hb dX10_read_101 rfl (lv_at hl 3 rfl) ?_
        refine lv_iload hx hb dX10_read_102 (lv_at hl 6 rfl) ?_
        refine v_X10_numberEnd C hl.1 Z.1 f1 tw_3_142 ⟨Nat.le_of_ble_eq_true rfl, Nat.le_of_ble_eq_true rfl⟩ ⟨Nat.le_refl _, Nat.le_refl _⟩ (Nat.le_of_ble_eq_true rfl) dX10_read_104 hB (fun v19 hB => ?_)
        refine lv_istore (lv' := [(7, .int v19), (6, .int x6_7), (0, .ref (ad g)), (1, .ref (ad r1)), (3, .ref (SA (1 + r3))), (4, .int x4), (5, .int x5)]) hx hb dX10_read_107 hl (by decide) rfl (fun ls hl => ?_)
        refine lv_aload_n hx hb dX10_read_109 rfl (lv_at hl 2 rfl) ?_
        refine lv_aload_n hx hb dX10_read_110 rfl (lv_at hl 3 rfl) ?_
        refine lv_iload hx hb dX10_read_111 (lv_at hl 6 rfl) ?_
        refine lv_iload hx hb dX10_read_113 (lv_at hl 0 rfl) ?_
        refine v_X10_numberOf C hl.1 Z.1 f1 tw_3_146 ⟨Nat.le_of_ble_eq_true rfl, Nat.le_of_ble_eq_true rfl⟩ ⟨Nat.le_refl _, Nat.le_refl _⟩ (Nat.le_of_ble_eq_true rfl) dX10_read_115 hB (fun v20 hB => ?_)
        refine v_X10_addValue C hl.1 Z hg tw_3_149 ⟨Nat.le_of_ble_eq_true rfl, Nat.le_of_ble_eq_true rfl⟩ ⟨Nat.le_refl _, Nat.le_refl _⟩ (Nat.le_of_ble_eq_true rfl) dX10_read_118 hB (fun M21 H locs hB Z => ?_)
        refine lv_iconst (v := 0) hx hb dX10_read_121 (by decide) ?_
        refine lv_istore (lv' := [(4, .int 0), (7, .int v19), (6, .int x6_7), (0, .ref (ad g)), (1, .ref (ad r1)), (3, .ref (SA (1 + r3))), (5, .int x5)]) hx hb dX10_read_122 hl (by decide) rfl (fun ls hl => ?_)
        refine lv_goto (tgt := 167) hx hb dX10_read_124 (by decide) ?_
        exact w_X10_read_167 C hr hlk Z hXS hg f1 hX18 f3 (lv_sub hl [3, 4, 5, 0, 1] rfl) hB
    · have hB := hB.2 q9
      refine lv_iload hx hb dX10_read_47 (lv_at hl 1 rfl) ?_
      refine lv_bipush (v := 41) hx hb dX10_read_49 (by decide) ?_
      refine lv_icmp_ne (tgt := 64) hx hb dX10_read_51 (by decide) (fun q22 => ?_) (fun q22 => ?_)
      · have hB := hB.1 q22
        refine lv_aload_n hx hb dX10_read_64 rfl (lv_at hl 2 rfl) ?_
        refine lv_iload hx hb dX10_read_65 (lv_at hl 1 rfl) ?_
        refine v_X10_joins C hl.1 Z hg tw_3_131 ⟨Nat.le_of_ble_eq_true rfl, Nat.le_of_ble_eq_true rfl⟩ ⟨Nat.le_refl _, Nat.le_refl _⟩ (Nat.le_of_ble_eq_true rfl) dX10_read_67 hB (fun v23 M24 H locs hB Z => ?_)
        refine lv_if_ne (tgt := 76) hx hb dX10_read_70 (by decide) (fun q25 => ?_) (fun q25 => ?_)
        · have hB := hB.1 q25
          exact w_X10_read_76 C hr hlk Z hXS hg f1 hX18 f3 (lv_sub hl [2, 3, 4, 1, 0] rfl) hB
        · have hB := hB.2 q25
          refine lv_iload hx hb dX10_read_73 (lv_at hl 6 rfl) ?_
          exact e_iW C hr hlk Z dX10_read_75 hB
      · have hB := hB.2 q22
        refine lv_aload_n hx hb dX10_read_54 rfl (lv_at hl 2 rfl) ?_
        refine v_X10_closes C hl.1 Z hg tw_3_112 ⟨Nat.le_of_ble_eq_true rfl, Nat.le_of_ble_eq_true rfl⟩ ⟨Nat.le_refl _, Nat.le_refl _⟩ (Nat.le_of_ble_eq_true rfl) dX10_read_55 hB (fun v27 M28 H locs hB Z => ?_)
        refine lv_if_eq (tgt := 73) hx hb dX10_read_58 (by decide) (fun q29 => ?_) (fun q29 => ?_)
        · have hB := hB.1 q29
          refine lv_iload hx hb dX10_read_73 (lv_at hl 6 rfl) ?_
          exact e_iW C hr hlk Z dX10_read_75 hB
        · have hB := hB.2 q29
          refine lv_goto (tgt := 76) hx hb dX10_read_61 (by decide) ?_
          exact w_X10_read_76 C hr hlk Z hXS hg f1 hX18 f3 (lv_sub hl [2, 3, 4, 1, 0] rfl) hB
set_option maxRecDepth 100000 in
set_option maxHeartbeats 4000000 in
theorem w_X10_read_11 {SA : Nat → Nat} {K : Nat} {g : Nat} {r1 : Nat} {M : Mem} {Q1 : Int32 → Mem → Prop} {s0 : Nat} (C : Cx T D p s m args c cX10_read 8 "OneOfTwo$Text") (hr : meth.sig.returnType = (some .int)) (hlk : meth.locks = false) (Z : Zz EC T D ad (69 + K) A s.heap M H locs) (hXS : XS SA A s s.heap) (hg : isT K g) (f1 : isR r1) (h0 : s0 < 2) {ls : Array Slot} (hl : lv_has ls 8 [(0, .ref (ad g)), (1, .ref (ad r1))]) (hB : B_X10_read_11 K g r1 Q1 s0 M) : W p l e (RM 9) s m args below meth c H locs 0 0 (MQ below (QcW EC T D ad (69 + K) A Q1) args s 0 0 A) (F0 m 11 ls [.ref (SA (1 + s0))]) := by
  have hx := C.x
  have hb := C.b
  delta B_X10_read_11 at hB
  refine lv_astore_n (lv' := [(3, .ref (SA (1 + s0))), (0, .ref (ad g)), (1, .ref (ad r1))]) hx hb dX10_read_11 rfl hl (by decide) rfl (fun ls hl => ?_)
  refine lv_iconst (v := 1) hx hb dX10_read_12 (by decide) ?_
  refine lv_istore (lv' := [(4, .int 1), (3, .ref (SA (1 + s0))), (0, .ref (ad g)), (1, .ref (ad r1))]) hx hb dX10_read_13 hl (by decide) rfl (fun ls hl => ?_)
  refine lv_iconst (v := 0) hx hb dX10_read_15 (by decide) ?_
  refine lv_istore (lv' := [(5, .int 0), (4, .int 1), (3, .ref (SA (1 + s0))), (0, .ref (ad g)), (1, .ref (ad r1))]) hx hb dX10_read_16 hl (by decide) rfl (fun ls hl => ?_)
  exact w_X10_read_18 C hr hlk Z hXS hg f1 h0 (lv_sub hl [3, 4, 2, 1, 0] rfl) hB
set_option maxRecDepth 100000 in
set_option maxHeartbeats 4000000 in
theorem c_X10_read {l : Launch} {SA : Nat → Nat} {T : Nat → ClassId} {D : va_G} {ad : Nat → Nat} {K : Nat} {M : Mem} {g : Nat} {r1 : Nat} {x2 : Int32} {sz : Nat} {Q1 : Int32 → Mem → Prop} (hg : isT K g) (f1 : isR r1) (hB : P_X10_read K M g r1 x2 Q1) : Met l yX10_read (Cond.code yX10_read cX10_read 8 (some .int) :: TB) (RM 9) (va_Pc [.ref (ad g), .ref (ad r1), .int x2] (WxP SA EC T D ad (69 + K) M sz)) (QcW EC T D ad (69 + K) (AA ad (69 + K) sz) Q1) 0 0 (AA ad (69 + K) sz) := by
  refine st_Wx (by decide) (Nat.le_of_ble_eq_true rfl) (fun p e s m args below meth c ls C hr hlk hsz hXS Z hl => ?_)
  have hl : lv_has ls 8 [(0, .ref (ad g)), (1, .ref (ad r1)), (2, .int x2)] := hl
  generalize AA ad (69 + K) sz = A at Z hXS ⊢
  have hx := C.x
  have hb := C.b
  delta P_X10_read at hB
  refine lv_iload_n hx hb dX10_read_0 rfl (lv_at hl 2 rfl) ?_
  refine lv_if_ne (tgt := 9) hx hb dX10_read_1 (by decide) (fun q1 => ?_) (fun q1 => ?_)
  · have hB := hB.1 q1
    refine va_ldcS hx hb C.1.2.2.2.1 hXS.2.2.2.2.2 dX10_read_9 ?_
    exact w_X10_read_11 C hr hlk Z hXS hg f1 (by decide) (lv_sub hl [0, 1] rfl) hB
  · have hB := hB.2 q1
    refine va_ldcS hx hb C.1.2.2.2.1 hXS.2.2.2.2.1 dX10_read_4 ?_
    refine lv_goto (tgt := 11) hx hb dX10_read_6 (by decide) ?_
    exact w_X10_read_11 C hr hlk Z hXS hg f1 (by decide) (lv_sub hl [0, 1] rfl) hB
set_option maxRecDepth 100000 in
set_option maxHeartbeats 4000000 in
theorem v_X10_read {SA : Nat → Nat} {K : Nat} {M : Mem} {g : Nat} {r1 : Nat} {x2 : Int32} {Q1 : Int32 → Mem → Prop} (C : Cx T D p s m args c cc nL own) (hls : ls.size = nL) (hXS : XS SA A s s.heap) (Z : Zz EC T D ad (69 + K) A s.heap M H locs) (hg : isT K g) (f1 : isR r1) (hlink : Cond.methodLink own index yX10_read ∈ TB) (hR : 9 + 1 ≤ R.frames ∧ 8 + (8 + 11) + 48 * 9 ≤ R.locals) (hcs : cells ≤ R.cells ∧ slots ≤ R.slots) (hcat : (rest.map fun v => v.category).sum ≤ 8) (hdg : decode cc pc = .ok (.invokevirtual index, 3)) (hB : P_X10_read K M g r1 x2 Q1)
    (kk : ∀ (r : Int32) (M1 : Mem) (H1 : Heap) (locs1 : List Loc), Q1 r M1 → Zz EC T D ad (69 + K) A s.heap M1 H1 locs1 → W p l e R s m args below meth c H1 locs1 cells slots QQ (F0 m (pc + 3) ls (.int r :: rest))) : W p l e R s m args below meth c H locs cells slots QQ (F0 m pc ls (.int x2 :: .ref (ad r1) :: .ref (ad g) :: rest)) :=
  k_VX (ci := 10) (n := 2) (c_X10_read hg f1 hB) tw_3_109 tw_3_107 tw_3_108 tw_1_15 ⟨rfl, by decide, by decide, by decide +kernel⟩ rfl rfl C hls hXS Z (oT hg) hlink hR hcs hcat rfl hdg kk
def B_X11_isUnder_4 (Q1 : Int32 → Prop) (x1 : Int32) (x2 : Int32) (x3 : Int32) : Prop :=
  ∀ X4 : Int32 → Int32 → Prop, (∀ (x2 : Int32) (x3 : Int32), (((7 ≤ x3 → Q1 0) ∧
    (¬ 7 ≤ x3 → ((x2 < 0 → Q1 0) ∧
      (¬ x2 < 0 → ((¬ x2 = x1 → vp_in x2 7 ∧ ∀ x2_5 : Int32, x2_5 = kAbove x2.toNatClampNeg → ∀ x3_6 : Int32, x3_6 = x3 + 1 → X4 x2_5 x3_6) ∧
        (x2 = x1 → Q1 1))))))) → X4 x2 x3) → X4 x2 x3
def P_X11_isUnder (x0 : Int32) (x1 : Int32) (Q1 : Int32 → Prop) : Prop :=
  B_X11_isUnder_4 Q1 x1 x0 0
set_option maxRecDepth 100000 in
set_option maxHeartbeats 4000000 in
theorem w_X11_isUnder_4 {SA : Nat → Nat} {Q1 : Int32 → Prop} {x1 : Int32} {x2 : Int32} {x3 : Int32} (C : CallFix p m c cX11_isUnder 4 s args TB "OneOfTwo") (hr : meth.sig.returnType = (some .boolean)) (hlk : meth.locks = false) (hXS : XS SA (fun _ => False) s s.heap) {ls : Array Slot} (hl : lv_has ls 4 [(1, .int x1), (2, .int x2), (3, .int x3)]) (hB : B_X11_isUnder_4 Q1 x1 x2 x3) : W p l e (RM 1) s m args below meth c s.heap [] 0 0 (MQ below (QcR Q1) args s 0 0 (fun _ => False)) (F0 m 4 ls []) := by
  delta B_X11_isUnder_4 at hB
  obtain ⟨X4, hX4, hY4⟩ : ∃ X4 : Int32 → Int32 → Prop, (∀ (x2 : Int32) (x3 : Int32), X4 x2 x3 → ∀ (ls : Array Slot), lv_has ls 4 [(1, .int x1), (2, .int x2), (3, .int x3)] → W p l e (RM 1) s m args below meth c s.heap [] 0 0 (MQ below (QcR Q1) args s 0 0 (fun _ => False)) (F0 m 4 ls [])) ∧ (∀ (x2 : Int32) (x3 : Int32), (∀ (ls : Array Slot), lv_has ls 4 [(1, .int x1), (2, .int x2), (3, .int x3)] → W p l e (RM 1) s m args below meth c s.heap [] 0 0 (MQ below (QcR Q1) args s 0 0 (fun _ => False)) (F0 m 4 ls [])) → X4 x2 x3) := ⟨fun (x2 : Int32) (x3 : Int32) => ∀ (ls : Array Slot), lv_has ls 4 [(1, .int x1), (2, .int x2), (3, .int x3)] → W p l e (RM 1) s m args below meth c s.heap [] 0 0 (MQ below (QcR Q1) args s 0 0 (fun _ => False)) (F0 m 4 ls []), fun _ _ h => h, fun _ _ h => h⟩
  refine hX4 _ _ (hB X4 (fun x2 x3 hB => hY4 _ _ (fun ls hl => ?_))) _ hl
  have hx := C.1
  have hb := C.2.1
  refine lv_iload_n hx hb dX11_isUnder_4 rfl (lv_at hl 2 rfl) ?_
  refine lv_bipush (v := 7) hx hb dX11_isUnder_5 (by decide) ?_
  refine lv_icmp_ge (tgt := 33) hx hb dX11_isUnder_7 (by decide) (fun q1 => ?_) (fun q1 => ?_)
  · have hB := hB.1 q1
    refine lv_iconst (v := 0) hx hb dX11_isUnder_33 (by decide) ?_
    exact e_zR C hr hlk dX11_isUnder_34 (Or.inl rfl) hB
  · have hB := hB.2 q1
    refine lv_iload_n hx hb dX11_isUnder_10 rfl (lv_at hl 1 rfl) ?_
    refine lv_if_lt (tgt := 33) hx hb dX11_isUnder_11 (by decide) (fun q2 => ?_) (fun q2 => ?_)
    · have hB := hB.1 q2
      refine lv_iconst (v := 0) hx hb dX11_isUnder_33 (by decide) ?_
      exact e_zR C hr hlk dX11_isUnder_34 (Or.inl rfl) hB
    · have hB := hB.2 q2
      refine lv_iload_n hx hb dX11_isUnder_14 rfl (lv_at hl 1 rfl) ?_
      refine lv_iload_n hx hb dX11_isUnder_15 rfl (lv_at hl 0 rfl) ?_
      refine lv_icmp_ne (tgt := 21) hx hb dX11_isUnder_16 (by decide) (fun q3 => ?_) (fun q3 => ?_)
      · have hB := hB.1 q3
        refine va_gets hx hb hXS.1 va_S.rf C.2.2.2.1 (C.2.2.2.2 _ tw_3_46) (fun _ h => h) dX11_isUnder_21 ?_
        refine lv_iload_n hx hb dX11_isUnder_24 rfl (lv_at hl 1 rfl) ?_
        obtain ⟨q4, hB⟩ := hB
        refine va_ti hx hb hXS.2.1 va_S.rf q4 rfl dX11_isUnder_25 ?_
        refine lv_topi (fun x2_5 ex2_5 => ?_)
        have hB := hB x2_5 ex2_5
        refine lv_istore_n (lv' := [(2, .int x2_5), (1, .int x1), (3, .int x3)]) hx hb dX11_isUnder_26 rfl hl (by decide) rfl (fun ls hl => ?_)
        obtain ⟨x3_6, ex3_6⟩ : ∃ y : Int32, y = x3 + 1 := ⟨_, rfl⟩
        have hB := hB x3_6 ex3_6
        refine lv_iinc (v := x3_6) (lv' := [(3, .int x3_6), (2, .int x2_5), (1, .int x1)]) hx hb dX11_isUnder_27 hl (k := 2) rfl (by rw [ex3_6]; rfl) (by decide) rfl (fun ls hl => ?_)
        refine lv_goto (tgt := 4) hx hb dX11_isUnder_30 (by decide) ?_
        exact hX4 _ _ hB _ (lv_sub hl [2, 1, 0] rfl)
      · have hB := hB.2 q3
        refine lv_iconst (v := 1) hx hb dX11_isUnder_19 (by decide) ?_
        exact e_zR C hr hlk dX11_isUnder_20 (Or.inr rfl) hB
set_option maxRecDepth 100000 in
set_option maxHeartbeats 4000000 in
theorem c_X11_isUnder {l : Launch} {SA : Nat → Nat} {x0 : Int32} {x1 : Int32} {Q1 : Int32 → Prop} (hB : P_X11_isUnder x0 x1 Q1) : Met l yX11_isUnder (Cond.code yX11_isUnder cX11_isUnder 4 (some .boolean) :: TB) (RM 1) (va_Pc [.int x0, .int x1] (UxP SA)) (QcR Q1) 0 0 (fun _ => False) := by
  refine st_Sx (by decide) (Nat.le_of_ble_eq_true rfl) (fun p e s m args below meth c ls C hr hlk hXS hl => ?_)
  have hl : lv_has ls 4 [(0, .int x0), (1, .int x1)] := hl
  have hx := C.1
  have hb := C.2.1
  delta P_X11_isUnder at hB
  refine lv_iload_n hx hb dX11_isUnder_0 rfl (lv_at hl 0 rfl) ?_
  refine lv_istore_n (lv' := [(2, .int x0), (0, .int x0), (1, .int x1)]) hx hb dX11_isUnder_1 rfl hl (by decide) rfl (fun ls hl => ?_)
  refine lv_iconst (v := 0) hx hb dX11_isUnder_2 (by decide) ?_
  refine lv_istore_n (lv' := [(3, .int 0), (2, .int x0), (0, .int x0), (1, .int x1)]) hx hb dX11_isUnder_3 rfl hl (by decide) rfl (fun ls hl => ?_)
  exact w_X11_isUnder_4 C hr hlk hXS (lv_sub hl [3, 1, 0] rfl) hB
set_option maxRecDepth 100000 in
set_option maxHeartbeats 4000000 in
theorem v_X11_isUnder {SA : Nat → Nat} {x0 : Int32} {x1 : Int32} {Q1 : Int32 → Prop} (C : CallFix p m c cc nL s args TB own) (hls : ls.size = nL) (hXS : XS SA A s s.heap) (hS : va_S A s.heap H locs) (hlink : Cond.methodLink own index yX11_isUnder ∈ TB) (hR : 1 + 1 ≤ R.frames ∧ 8 + (4 + 11) + 48 * 1 ≤ R.locals) (hcs : cells ≤ R.cells ∧ slots ≤ R.slots) (hcat : (rest.map fun v => v.category).sum ≤ 8) (hdg : decode cc pc = .ok (.invokestatic index, 3)) (hB : P_X11_isUnder x0 x1 Q1)
    (kk : ∀ r : Int32, Q1 r → W p l e R s m args below meth c H locs cells slots QQ (F0 m (pc + 3) ls (.int r :: rest))) : W p l e R s m args below meth c H locs cells slots QQ (F0 m pc ls (.int x1 :: .int x0 :: rest)) :=
  k_Sx (n := 2) (c_X11_isUnder hB) tw_3_45 tw_3_44 tw_1_1 ⟨by decide, by decide, by decide +kernel⟩ rfl C hls hXS hS hlink hR hcs hcat rfl hdg kk
def P_X11_as (K : Nat) (M : Mem) (x1 : Int32) (x2 : Int32) (Q1 : Int32 → Mem → Prop) : Prop :=
  P_X11_isLodger K M x1 (fun v1 => ((v1 = 0 → P_X11_error K M 1 (fun v3 M4 => Q1 v3 M4)) ∧
    (¬ v1 = 0 → ((x2 < 0 → P_X11_error K M 1 (fun v6 M7 => Q1 v6 M7)) ∧
      (¬ x2 < 0 → ((x2 < 7 → vp_in x1 6 ∧ ∀ u10 : Int32, u10 = M 35 x1.toNatClampNeg → isKd_X3 u10 ∧ P_X11_isUnder (u10 - 15) x2 (fun v12 => ((¬ v12 = 0 → vp_in x1 6 ∧ Q1 (M 36 x1.toNatClampNeg) M) ∧
          (v12 = 0 → P_X11_error K M 5 (fun v15 M16 => Q1 v15 M16))))) ∧
        (¬ x2 < 7 → P_X11_error K M 1 (fun v17 M18 => Q1 v17 M18))))))))
set_option maxRecDepth 100000 in
set_option maxHeartbeats 4000000 in
theorem c_X11_as {l : Launch} {SA : Nat → Nat} {T : Nat → ClassId} {D : va_G} {ad : Nat → Nat} {K : Nat} {M : Mem} {x1 : Int32} {x2 : Int32} {sz : Nat} {Q1 : Int32 → Mem → Prop} (hB : P_X11_as K M x1 x2 Q1) : Met l yX11_as (Cond.code yX11_as cX11_as 3 (some .int) :: TB) (RM 2) (va_Pc [.ref (ad 0), .int x1, .int x2] (WxP SA EC T D ad (69 + K) M sz)) (QcW EC T D ad (69 + K) (AA ad (69 + K) sz) Q1) 0 0 (AA ad (69 + K) sz) := by
  refine st_Wx (by decide) (Nat.le_of_ble_eq_true rfl) (fun p e s m args below meth c ls C hr hlk hsz hXS Z hl => ?_)
  have hl : lv_has ls 3 [(0, .ref (ad 0)), (1, .int x1), (2, .int x2)] := hl
  generalize AA ad (69 + K) sz = A at Z hXS ⊢
  have hx := C.x
  have hb := C.b
  delta P_X11_as at hB
  refine lv_aload_n hx hb dX11_as_0 rfl (lv_at hl 0 rfl) ?_
  refine lv_iload_n hx hb dX11_as_1 rfl (lv_at hl 1 rfl) ?_
  refine v_X11_isLodger C hl.1 Z.1 tw_2_197 ⟨Nat.le_of_ble_eq_true rfl, Nat.le_of_ble_eq_true rfl⟩ ⟨Nat.le_refl _, Nat.le_refl _⟩ (Nat.le_of_ble_eq_true rfl) dX11_as_2 hB (fun v1 hB => ?_)
  refine lv_if_eq (tgt := 18) hx hb dX11_as_5 (by decide) (fun q2 => ?_) (fun q2 => ?_)
  · have hB := hB.1 q2
    refine lv_aload_n hx hb dX11_as_18 rfl (lv_at hl 0 rfl) ?_
    refine lv_iconst (v := 1) hx hb dX11_as_19 (by decide) ?_
    refine v_X11_error C hl.1 Z tw_2_56 ⟨Nat.le_of_ble_eq_true rfl, Nat.le_of_ble_eq_true rfl⟩ ⟨Nat.le_refl _, Nat.le_refl _⟩ (Nat.le_of_ble_eq_true rfl) dX11_as_20 hB (fun v3 M4 H locs hB Z => ?_)
    exact e_iW C hr hlk Z dX11_as_23 hB
  · have hB := hB.2 q2
    refine lv_iload_n hx hb dX11_as_8 rfl (lv_at hl 2 rfl) ?_
    refine lv_if_lt (tgt := 18) hx hb dX11_as_9 (by decide) (fun q5 => ?_) (fun q5 => ?_)
    · have hB := hB.1 q5
      refine lv_aload_n hx hb dX11_as_18 rfl (lv_at hl 0 rfl) ?_
      refine lv_iconst (v := 1) hx hb dX11_as_19 (by decide) ?_
      refine v_X11_error C hl.1 Z tw_2_56 ⟨Nat.le_of_ble_eq_true rfl, Nat.le_of_ble_eq_true rfl⟩ ⟨Nat.le_refl _, Nat.le_refl _⟩ (Nat.le_of_ble_eq_true rfl) dX11_as_20 hB (fun v6 M7 H locs hB Z => ?_)
      exact e_iW C hr hlk Z dX11_as_23 hB
    · have hB := hB.2 q5
      refine lv_iload_n hx hb dX11_as_12 rfl (lv_at hl 2 rfl) ?_
      refine lv_bipush (v := 7) hx hb dX11_as_13 (by decide) ?_
      refine lv_icmp_lt (tgt := 24) hx hb dX11_as_15 (by decide) (fun q8 => ?_) (fun q8 => ?_)
      · have hB := hB.1 q8
        refine lv_aload_n hx hb dX11_as_24 rfl (lv_at hl 0 rfl) ?_
        refine gf_X11_5 C Z.1 tw_2_17 dX11_as_25 ?_
        refine gf_X2_7 C Z.1 isH_0 tw_1_149 dX11_as_28 ?_
        refine lv_iload_n hx hb dX11_as_31 rfl (lv_at hl 1 rfl) ?_
        obtain ⟨q9, hB⟩ := hB
        obtain ⟨u10, eu10⟩ : ∃ y : Int32, y = M 35 x1.toNatClampNeg := ⟨_, rfl⟩
        obtain ⟨fh11, hB⟩ := hB u10 eu10
        refine hk_ld C Z.1 isH_0 q9 eu10 fh11 dX11_as_32 ?_
        refine gf_number C Z.1 fh11 tw_1_64 dX11_as_33 ?_
        refine lv_iload_n hx hb dX11_as_36 rfl (lv_at hl 2 rfl) ?_
        refine v_X11_isUnder C.1 hl.1 hXS Z.2.2.2.2 tw_3_43 ⟨Nat.le_of_ble_eq_true rfl, Nat.le_of_ble_eq_true rfl⟩ ⟨Nat.le_refl _, Nat.le_refl _⟩ (Nat.le_of_ble_eq_true rfl) dX11_as_37 hB (fun v12 hB => ?_)
        refine lv_if_ne (tgt := 49) hx hb dX11_as_40 (by decide) (fun q13 => ?_) (fun q13 => ?_)
        · have hB := hB.1 q13
          refine lv_aload_n hx hb dX11_as_49 rfl (lv_at hl 0 rfl) ?_
          refine gf_X11_5 C Z.1 tw_2_17 dX11_as_50 ?_
          refine gf_X2_8 C Z.1 isH_0 tw_1_151 dX11_as_53 ?_
          refine lv_iload_n hx hb dX11_as_56 rfl (lv_at hl 1 rfl) ?_
          obtain ⟨q14, hB⟩ := hB
          refine a_ld C Z.1 (aH_6 isH_0) q14 dX11_as_57 ?_
          exact e_iW C hr hlk Z dX11_as_58 hB
        · have hB := hB.2 q13
          refine lv_aload_n hx hb dX11_as_43 rfl (lv_at hl 0 rfl) ?_
          refine lv_iconst (v := 5) hx hb dX11_as_44 (by decide) ?_
          refine v_X11_error C hl.1 Z tw_2_56 ⟨Nat.le_of_ble_eq_true rfl, Nat.le_of_ble_eq_true rfl⟩ ⟨Nat.le_refl _, Nat.le_refl _⟩ (Nat.le_of_ble_eq_true rfl) dX11_as_45 hB (fun v15 M16 H locs hB Z => ?_)
          exact e_iW C hr hlk Z dX11_as_48 hB
      · have hB := hB.2 q8
        refine lv_aload_n hx hb dX11_as_18 rfl (lv_at hl 0 rfl) ?_
        refine lv_iconst (v := 1) hx hb dX11_as_19 (by decide) ?_
        refine v_X11_error C hl.1 Z tw_2_56 ⟨Nat.le_of_ble_eq_true rfl, Nat.le_of_ble_eq_true rfl⟩ ⟨Nat.le_refl _, Nat.le_refl _⟩ (Nat.le_of_ble_eq_true rfl) dX11_as_20 hB (fun v17 M18 H locs hB Z => ?_)
        exact e_iW C hr hlk Z dX11_as_23 hB
set_option maxRecDepth 100000 in
set_option maxHeartbeats 4000000 in
theorem v_X11_as {SA : Nat → Nat} {K : Nat} {M : Mem} {x1 : Int32} {x2 : Int32} {Q1 : Int32 → Mem → Prop} (C : Cx T D p s m args c cc nL own) (hls : ls.size = nL) (hXS : XS SA A s s.heap) (Z : Zz EC T D ad (69 + K) A s.heap M H locs) (hlink : Cond.methodLink own index yX11_as ∈ TB) (hR : 2 + 1 ≤ R.frames ∧ 8 + (3 + 11) + 48 * 2 ≤ R.locals) (hcs : cells ≤ R.cells ∧ slots ≤ R.slots) (hcat : (rest.map fun v => v.category).sum ≤ 8) (hdg : decode cc pc = .ok (.invokevirtual index, 3)) (hB : P_X11_as K M x1 x2 Q1)
    (kk : ∀ (r : Int32) (M1 : Mem) (H1 : Heap) (locs1 : List Loc), Q1 r M1 → Zz EC T D ad (69 + K) A s.heap M1 H1 locs1 → W p l e R s m args below meth c H1 locs1 cells slots QQ (F0 m (pc + 3) ls (.int r :: rest))) : W p l e R s m args below meth c H locs cells slots QQ (F0 m pc ls (.int x2 :: .int x1 :: .ref (ad 0) :: rest)) :=
  k_VX (ci := 11) (n := 2) (c_X11_as hB) tw_3_42 tw_3_40 tw_3_41 tw_1_1 ⟨rfl, by decide, by decide, by decide +kernel⟩ rfl rfl C hls hXS Z oO hlink hR hcs hcat rfl hdg kk
end
