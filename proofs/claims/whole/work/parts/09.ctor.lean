/-! ===== constructors: worlds as lists of cells ===== -/
def AOs (U : State) : Prop := va_AO "OneOfTwo$Lodger" U ∧ va_AO "OneOfTwo$Row" U ∧ va_AO "OneOfTwo$Text" U
theorem AOs.warm {s U : State} (hW : s.WarmedH U.vm) (h : AOs s) : AOs U := ⟨va_AO.moved hW.alike h.1, va_AO.moved hW.alike h.2.1, va_AO.moved hW.alike h.2.2⟩
theorem AOs.call {U : State} {g : JFrame} {mk : MethodId} {a : Array Value} (h : AOs U) : AOs (U.calling g mk a) := ⟨va_AO.moved (u := U) (Vm.Alike.refl U.vm) h.1, va_AO.moved (u := U) (Vm.Alike.refl U.vm) h.2.1, va_AO.moved (u := U) (Vm.Alike.refl U.vm) h.2.2⟩
abbrev RC (n c k : Nat) : Room := { frames := n, cells := c, slots := k, locals := 48 * n }
def CtP (T : Nat → ClassId) (D : va_G) (w : va_W) (sz : Nat) : State → Prop := fun U => U.heap.size = sz ∧ va_P D vwCl w U.heap ∧ KK T D U ∧ va_D (fun _ => True) w ∧ AOs U
theorem blC {T : Nat → ClassId} {D : va_G} {w : va_W} {sz : Nat} {av : List Value} : FrameBlind (va_Pc av (CtP T D w sz)) :=
  fun a U g mk h => ⟨h.1, h.2.1, h.2.2.1, h.2.2.2.1.call, h.2.2.2.2.1, h.2.2.2.2.2.call⟩
theorem st_C {T : Nat → ClassId} {D : va_G} {w : va_W} {l : Launch} {y : MethodName} {cc : ByteArray} {maxL lv mc ms sz : Nat} {Qc : Array Value → State → Outcome → State → Prop} {av : List Value} (hy : plainName y.cls = true) (hlen : (lg_sl av).length ≤ maxL)
    (body : ∀ (p : Program) (e : Env) (s : State) (m : MethodId) (args : Array Value) (below : List Frame) (meth : Method) (c : Code) (ls : Array Slot) (A : Nat → Prop), Cx T D p s m args c cc maxL y.cls → meth.sig.returnType = none → meth.locks = false → meth.name = y.name → AOs s → A = va_A w sz → (∀ q, s.heap.size ≤ q → A q) → va_P D vwCl w s.heap → va_D A w → va_S A s.heap s.heap [] → lv_has ls maxL (lv_args 0 av) → W p l e (RC lv mc ms) s m args below meth c s.heap [] 0 0 (MQ below Qc args s mc ms A) (F0 m 0 ls [])) :
    Met l y (Cond.code y cc maxL none :: TB) (RC lv mc ms) (va_Pc av (CtP T D w sz)) Qc mc ms (va_A w sz) := by
  refine Met.ofW (cc := cc) (maxL := maxL) (ret := none) hy rfl ?_
  intro p e s m args below meth c s₁ B hml hv
  obtain ⟨rfl, hsz, hP, hK, hD, hO⟩ := hv
  have hts := atoms_spec (ws := Cond.code y cc maxL none :: TB) B.pre
  have hl := lv_entry av hlen
  rw [lg_entry_eq]
  exact body p e s m _ below meth c _ _ ⟨⟨B.exec, B.bytes, hml, findClass_of_methodNamed B.named, fun w hw => hts w (List.mem_cons_of_mem _ hw)⟩, hK⟩ B.returns B.notSynchronized (name_of_methodNamed B.named B.method).1 hO rfl (fun q hq => Or.inr (by rw [← hsz]; exact hq)) hP (hsz ▸ hD.self) va_S.rf hl
section BASE6
variable {p : Program} {l : Launch} {e : Env} {R : Room} {s : State} {m : MethodId} {args : Array Value} {below : List Frame} {meth : Method} {c : Code} {H : Heap} {locs : List Loc} {cells slots : Nat} {Q : State → Prop}
variable {cc : ByteArray} {nL : Nat} {own : String} {pc index : Nat} {ls : Array Slot} {rest st0 : List Value} {a : Array Value} {T : Nat → ClassId} {D : va_G} {A : Nat → Prop} {H0 : Heap} {ws : va_W}
theorem nw_i {n : Int32} {N : Nat} (C : Cx T D p s m args c cc nL own) (hP : va_P D vwCl ws H) (hD : va_D A ws) (hS : va_S A H0 H locs) (hA : ∀ q, H0.size ≤ q → A q) (hn : ¬ n < 0) (hN : n.toNatClampNeg = N) (hbytes : N * componentBytes .int ≤ 536870912) (hcells : cells + 1 ≤ R.cells) (hslots : slots + N ≤ R.slots) (hdg : decode cc pc = .ok (.newarray .int, 2))
    (kk : ∀ (q : Nat) (H1 : Heap), va_P D vwCl (ws ++ [(q, .inl (T 0, N, .inl fun _ => 0))]) H1 → va_D A (ws ++ [(q, .inl (T 0, N, .inl fun _ => 0))]) → va_S A H0 H1 locs → W p l e R s m args below meth c H1 locs (cells + 1) (slots + N) Q (F0 m (pc + 2) ls (.ref q :: rest))) : W p l e R s m args below meth c H locs cells slots Q (F0 m pc ls (.int n :: rest)) := by
  refine va_newa (atype := .int) C.x C.b (C.1.2.2.2.2 _ tw_1_57) (ty := .int) rfl C.2.1 hP hD hS hA (a0 := (N, .inl fun _ => 0)) (fun _ => rfl) hn hN hbytes hcells hslots hdg (fun q cA H1 hK hP hD hS => ?_)
  have h1 := (hK.2 4 _ rfl).2
  have h2 := (C.2.1.2 0 _ rfl).2
  have hc : cA = T 0 := Option.some.inj (Eq.trans (Eq.symm (show s.vm.findClass _ = some cA from h1)) (show s.vm.findClass _ = some (T 0) from h2))
  subst hc
  exact kk q H1 hP hD hS
theorem nw_q {n : Int32} {N t : Nat} {Cn : String} (ht : (tysOf T)[t]? = some (T t, .object Cn)) (hover : va_AO Cn s) (C : Cx T D p s m args c cc nL own) (hclink : Cond.classLink own index Cn ∈ TB) (hP : va_P D vwCl ws H) (hD : va_D A ws) (hS : va_S A H0 H locs) (hA : ∀ q, H0.size ≤ q → A q) (hn : ¬ n < 0) (hN : n.toNatClampNeg = N) (hbytes : N * 4 ≤ 536870912) (hcells : cells + 1 ≤ R.cells) (hslots : slots + N ≤ R.slots) (hdg : decode cc pc = .ok (.anewarray index, 3))
    (kk : ∀ (q : Nat) (H1 : Heap), va_P D vwCl (ws ++ [(q, .inl (T t, N, .inr (.inr (.inr (.inr fun _ => none)))))]) H1 → va_D A (ws ++ [(q, .inl (T t, N, .inr (.inr (.inr (.inr fun _ => none)))))]) → va_S A H0 H1 locs → W p l e R s m args below meth c H1 locs (cells + 1) (slots + N) Q (F0 m (pc + 3) ls (.ref q :: rest))) : W p l e R s m args below meth c H locs cells slots Q (F0 m pc ls (.int n :: rest)) := by
  refine va_newq C.x C.b C.1.2.2.2.1 (C.1.2.2.2.2 _ hclink) hover C.2.1 hP hD hS hA hn hN hbytes hcells hslots hdg (fun q cA H1 hK hP hD hS => ?_)
  obtain ⟨-, -, -, -, -, h1⟩ := (hK.2 4 _ rfl).2
  obtain ⟨-, -, -, -, -, h2⟩ := (C.2.1.2 t _ ht).2
  have hc : cA = T t := Option.some.inj (h1.symm.trans h2)
  subst hc
  exact kk q H1 hP hD hS
def QcC (D : va_G) (A : Nat → Prop) (w : (Nat → Nat) → va_W) : Array Value → State → Outcome → State → Prop := va_Qv (S := Nat → Nat) (fun _ => True) (fun u t => va_P D vwCl (w u) t.heap ∧ va_D A (w u)) A
theorem o_init {q : Nat} (C : Cx T D p s m args c cc nL own) (hls : ls.size = nL) (hlink : Cond.methodLink own index Lib.objectInit ∈ TB) (hf : 1 ≤ R.frames) (hlo : 2 * 0 + (rest.map fun v => v.category).sum + 12 ≤ R.locals) (hdg : decode cc pc = .ok (.invokespecial index, 3))
    (kk : W p l e R s m args below meth c H locs cells slots Q (F0 m (pc + 3) ls rest)) : W p l e R s m args below meth c H locs cells slots Q (F0 m pc ls (.ref q :: rest)) :=
  W.objInit C.x C.b C.1.2.2.2.1 (C.1.2.2.2.2 _ hlink) (C.1.2.2.2.2 _ tw_1_29) (C.1.2.2.2.2 _ tw_1_30) rfl (hls.trans C.1.2.2.1.symm) rfl hdg hf hlo kk
end BASE6
set_option maxRecDepth 100000 in
set_option maxHeartbeats 4000000 in
theorem c_X10_init_10 {l : Launch} {T : Nat → ClassId} {D : va_G} (h0 sz : Nat) (x1 : Int32) (m2 : Nat) : Met l yX10_init (Cond.code yX10_init cX10_init 3 none :: TB) (RC 1 2 100) (va_Pc [.ref h0, .int x1, .ref m2] (CtP T D [(h0, .inr (10, [.int 0, .null, .null, .int 0, .null, .int 0, .int 0]))] sz)) (QcC D (va_A [(h0, .inr (10, [.int 0, .null, .null, .int 0, .null, .int 0, .int 0]))] sz) (fun u => [(h0, .inr (10, [.int x1, .ref m2, .ref (u 0), .int 0, .ref (u 1), .int 0, .int 0])), ((u 0), .inl (T 0, 50, .inl (fun _ => 0))), ((u 1), .inl (T 0, 50, .inl (fun _ => 0)))])) 2 100 (va_A [(h0, .inr (10, [.int 0, .null, .null, .int 0, .null, .int 0, .int 0]))] sz) := by
  refine st_C (by decide) (Nat.le_of_ble_eq_true rfl) (fun p e s m args below meth c ls A C hr hlk hin hO hAe hA hP hD hS hl => ?_)
  rw [← hAe]
  clear hAe
  have hl : lv_has ls 3 [(0, .ref h0), (1, .int x1), (2, .ref m2)] := hl
  have hx := C.x
  have hb := C.b
  refine lv_aload_n hx hb dX10_init_0 rfl (lv_at hl 0 rfl) ?_
  refine o_init C hl.1 tw_3_81 (Nat.le_of_ble_eq_true rfl) (Nat.le_of_ble_eq_true rfl) dX10_init_1 ?_
  refine lv_aload_n hx hb dX10_init_4 rfl (lv_at hl 0 rfl) ?_
  refine lv_bipush (v := 50) hx hb dX10_init_5 (by decide) ?_
  refine nw_i (N := 50) C hP hD hS hA (by decide) (by decide) (Nat.le_of_ble_eq_true rfl) (Nat.le_of_ble_eq_true rfl) (Nat.le_of_ble_eq_true rfl) dX10_init_7 (fun q1 H hP hD hS => ?_)
  have hP : va_P D vwCl [(h0, .inr (10, [.int 0, .null, .null, .int 0, .null, .int 0, .int 0])), (q1, .inl (T 0, 50, .inl (fun _ => 0)))] H := hP
  have hD : va_D A [(h0, .inr (10, [.int 0, .null, .null, .int 0, .null, .int 0, .int 0])), (q1, .inl (T 0, 50, .inl (fun _ => 0)))] := hD
  refine W.cs (cells' := 1) (slots' := 50) rfl rfl ?_
  refine va_putF (ci := 10) (v := .ref q1) (ty := .array .int) (C := "OneOfTwo$Text") (T := TX10) (N := 7) hx hb C.1.2.2.2.2 in_X10 tyX10 tyX10_ok nmX10 C.1.2.2.2.1 C.2.1 hP hD hS 0 rfl rfl 2 (by decide) (C.1.2.2.2.2 _ tw_3_86) (fun _ h => h) rfl hin rfl (by decide +kernel) rfl rfl (Nat.le_of_ble_eq_true rfl) dX10_init_9 (fun H locs hP hD hS => ?_)
  have hP : va_P D vwCl [(h0, .inr (10, [.int 0, .null, .ref q1, .int 0, .null, .int 0, .int 0])), (q1, .inl (T 0, 50, .inl (fun _ => 0)))] H := hP
  have hD : va_D A [(h0, .inr (10, [.int 0, .null, .ref q1, .int 0, .null, .int 0, .int 0])), (q1, .inl (T 0, 50, .inl (fun _ => 0)))] := hD
  refine lv_aload_n hx hb dX10_init_12 rfl (lv_at hl 0 rfl) ?_
  refine lv_iconst (v := 0) hx hb dX10_init_13 (by decide) ?_
  refine va_put (ci := 10) (v := .int 0) (ty := .int) (C := "OneOfTwo$Text") (T := TX10) (N := 7) hx hb C.1.2.2.2.2 in_X10 tyX10 tyX10_ok nmX10 C.1.2.2.2.1 C.2.1 hP hD hS 0 rfl rfl 3 (by decide) (C.1.2.2.2.2 _ tw_3_87) (fun _ h => h) rfl (by decide +kernel) rfl rfl (Nat.le_of_ble_eq_true rfl) dX10_init_14 (fun H locs hP hD hS => ?_)
  have hP : va_P D vwCl [(h0, .inr (10, [.int 0, .null, .ref q1, .int 0, .null, .int 0, .int 0])), (q1, .inl (T 0, 50, .inl (fun _ => 0)))] H := hP
  have hD : va_D A [(h0, .inr (10, [.int 0, .null, .ref q1, .int 0, .null, .int 0, .int 0])), (q1, .inl (T 0, 50, .inl (fun _ => 0)))] := hD
  refine lv_aload_n hx hb dX10_init_17 rfl (lv_at hl 0 rfl) ?_
  refine lv_bipush (v := 50) hx hb dX10_init_18 (by decide) ?_
  refine nw_i (N := 50) C hP hD hS hA (by decide) (by decide) (Nat.le_of_ble_eq_true rfl) (Nat.le_of_ble_eq_true rfl) (Nat.le_of_ble_eq_true rfl) dX10_init_20 (fun q2 H hP hD hS => ?_)
  have hP : va_P D vwCl [(h0, .inr (10, [.int 0, .null, .ref q1, .int 0, .null, .int 0, .int 0])), (q1, .inl (T 0, 50, .inl (fun _ => 0))), (q2, .inl (T 0, 50, .inl (fun _ => 0)))] H := hP
  have hD : va_D A [(h0, .inr (10, [.int 0, .null, .ref q1, .int 0, .null, .int 0, .int 0])), (q1, .inl (T 0, 50, .inl (fun _ => 0))), (q2, .inl (T 0, 50, .inl (fun _ => 0)))] := hD
  refine W.cs (cells' := 2) (slots' := 100) rfl rfl ?_
  refine va_putF (ci := 10) (v := .ref q2) (ty := .array .int) (C := "OneOfTwo$Text") (T := TX10) (N := 7) hx hb C.1.2.2.2.2 in_X10 tyX10 tyX10_ok nmX10 C.1.2.2.2.1 C.2.1 hP hD hS 0 rfl rfl 4 (by decide) (C.1.2.2.2.2 _ tw_3_88) (fun _ h => h) rfl hin rfl (by decide +kernel) rfl rfl (Nat.le_of_ble_eq_true rfl) dX10_init_22 (fun H locs hP hD hS => ?_)
  have hP : va_P D vwCl [(h0, .inr (10, [.int 0, .null, .ref q1, .int 0, .ref q2, .int 0, .int 0])), (q1, .inl (T 0, 50, .inl (fun _ => 0))), (q2, .inl (T 0, 50, .inl (fun _ => 0)))] H := hP
  have hD : va_D A [(h0, .inr (10, [.int 0, .null, .ref q1, .int 0, .ref q2, .int 0, .int 0])), (q1, .inl (T 0, 50, .inl (fun _ => 0))), (q2, .inl (T 0, 50, .inl (fun _ => 0)))] := hD
  refine lv_aload_n hx hb dX10_init_25 rfl (lv_at hl 0 rfl) ?_
  refine lv_iconst (v := 0) hx hb dX10_init_26 (by decide) ?_
  refine va_put (ci := 10) (v := .int 0) (ty := .int) (C := "OneOfTwo$Text") (T := TX10) (N := 7) hx hb C.1.2.2.2.2 in_X10 tyX10 tyX10_ok nmX10 C.1.2.2.2.1 C.2.1 hP hD hS 0 rfl rfl 5 (by decide) (C.1.2.2.2.2 _ tw_3_89) (fun _ h => h) rfl (by decide +kernel) rfl rfl (Nat.le_of_ble_eq_true rfl) dX10_init_27 (fun H locs hP hD hS => ?_)
  have hP : va_P D vwCl [(h0, .inr (10, [.int 0, .null, .ref q1, .int 0, .ref q2, .int 0, .int 0])), (q1, .inl (T 0, 50, .inl (fun _ => 0))), (q2, .inl (T 0, 50, .inl (fun _ => 0)))] H := hP
  have hD : va_D A [(h0, .inr (10, [.int 0, .null, .ref q1, .int 0, .ref q2, .int 0, .int 0])), (q1, .inl (T 0, 50, .inl (fun _ => 0))), (q2, .inl (T 0, 50, .inl (fun _ => 0)))] := hD
  refine lv_aload_n hx hb dX10_init_30 rfl (lv_at hl 0 rfl) ?_
  refine lv_iconst (v := 0) hx hb dX10_init_31 (by decide) ?_
  refine va_put (ci := 10) (v := .int 0) (ty := .int) (C := "OneOfTwo$Text") (T := TX10) (N := 7) hx hb C.1.2.2.2.2 in_X10 tyX10 tyX10_ok nmX10 C.1.2.2.2.1 C.2.1 hP hD hS 0 rfl rfl 6 (by decide) (C.1.2.2.2.2 _ tw_3_90) (fun _ h => h) rfl (by decide +kernel) rfl rfl (Nat.le_of_ble_eq_true rfl) dX10_init_32 (fun H locs hP hD hS => ?_)
  have hP : va_P D vwCl [(h0, .inr (10, [.int 0, .null, .ref q1, .int 0, .ref q2, .int 0, .int 0])), (q1, .inl (T 0, 50, .inl (fun _ => 0))), (q2, .inl (T 0, 50, .inl (fun _ => 0)))] H := hP
  have hD : va_D A [(h0, .inr (10, [.int 0, .null, .ref q1, .int 0, .ref q2, .int 0, .int 0])), (q1, .inl (T 0, 50, .inl (fun _ => 0))), (q2, .inl (T 0, 50, .inl (fun _ => 0)))] := hD
  refine lv_aload_n hx hb dX10_init_35 rfl (lv_at hl 0 rfl) ?_
  refine lv_iload_n hx hb dX10_init_36 rfl (lv_at hl 1 rfl) ?_
  refine va_putF (ci := 10) (v := .int x1) (ty := .int) (C := "OneOfTwo$Text") (T := TX10) (N := 7) hx hb C.1.2.2.2.2 in_X10 tyX10 tyX10_ok nmX10 C.1.2.2.2.1 C.2.1 hP hD hS 0 rfl rfl 0 (by decide) (C.1.2.2.2.2 _ tw_3_82) (fun _ h => h) rfl hin rfl (by decide +kernel) rfl rfl (Nat.le_of_ble_eq_true rfl) dX10_init_37 (fun H locs hP hD hS => ?_)
  have hP : va_P D vwCl [(h0, .inr (10, [.int x1, .null, .ref q1, .int 0, .ref q2, .int 0, .int 0])), (q1, .inl (T 0, 50, .inl (fun _ => 0))), (q2, .inl (T 0, 50, .inl (fun _ => 0)))] H := hP
  have hD : va_D A [(h0, .inr (10, [.int x1, .null, .ref q1, .int 0, .ref q2, .int 0, .int 0])), (q1, .inl (T 0, 50, .inl (fun _ => 0))), (q2, .inl (T 0, 50, .inl (fun _ => 0)))] := hD
  refine lv_aload_n hx hb dX10_init_40 rfl (lv_at hl 0 rfl) ?_
  refine lv_aload_n hx hb dX10_init_41 rfl (lv_at hl 2 rfl) ?_
  refine va_putF (ci := 10) (v := .ref m2) (ty := .array .int) (C := "OneOfTwo$Text") (T := TX10) (N := 7) hx hb C.1.2.2.2.2 in_X10 tyX10 tyX10_ok nmX10 C.1.2.2.2.1 C.2.1 hP hD hS 0 rfl rfl 1 (by decide) (C.1.2.2.2.2 _ tw_3_84) (fun _ h => h) rfl hin rfl (by decide +kernel) rfl rfl (Nat.le_of_ble_eq_true rfl) dX10_init_42 (fun H locs hP hD hS => ?_)
  have hP : va_P D vwCl [(h0, .inr (10, [.int x1, .ref m2, .ref q1, .int 0, .ref q2, .int 0, .int 0])), (q1, .inl (T 0, 50, .inl (fun _ => 0))), (q2, .inl (T 0, 50, .inl (fun _ => 0)))] H := hP
  have hD : va_D A [(h0, .inr (10, [.int x1, .ref m2, .ref q1, .int 0, .ref q2, .int 0, .int 0])), (q1, .inl (T 0, 50, .inl (fun _ => 0))), (q2, .inl (T 0, 50, .inl (fun _ => 0)))] := hD
  have hP := hP.sub (ws' := [(h0, .inr (10, [.int x1, .ref m2, .ref q1, .int 0, .ref q2, .int 0, .int 0])), (q1, .inl (T 0, 50, .inl (fun _ => 0))), (q2, .inl (T 0, 50, .inl (fun _ => 0)))]) [0, 1, 2] rfl
  have hD := hD.sub (ws' := [(h0, .inr (10, [.int x1, .ref m2, .ref q1, .int 0, .ref q2, .int 0, .int 0])), (q1, .inl (T 0, 50, .inl (fun _ => 0))), (q2, .inl (T 0, 50, .inl (fun _ => 0)))]) [0, 1, 2] (by decide) rfl
  exact W.vret hx hb hr (fun t ht hW => ⟨⟨fun k => ([q1, q2] : List Nat).getD k 0, rfl, trivial, by rw [ht]; exact hP, hD⟩, hS.F ht⟩) hS.2.2 dX10_init_45 hlk
set_option maxRecDepth 100000 in
set_option maxHeartbeats 4000000 in
theorem c_X4_init_4_40 {l : Launch} {T : Nat → ClassId} {D : va_G} (h0 sz : Nat) : Met l yX4_init (Cond.code yX4_init cX4_init 2 none :: TB) (RC 1 1 40) (va_Pc [.ref h0, .int 40] (CtP T D [(h0, .inr (4, [.null, .int 0, .int 0]))] sz)) (QcC D (va_A [(h0, .inr (4, [.null, .int 0, .int 0]))] sz) (fun u => [(h0, .inr (4, [.ref (u 0), .int 0, .int 0])), ((u 0), .inl (T 0, 40, .inl (fun _ => 0)))])) 1 40 (va_A [(h0, .inr (4, [.null, .int 0, .int 0]))] sz) := by
  refine st_C (by decide) (Nat.le_of_ble_eq_true rfl) (fun p e s m args below meth c ls A C hr hlk hin hO hAe hA hP hD hS hl => ?_)
  rw [← hAe]
  clear hAe
  have hl : lv_has ls 2 [(0, .ref h0), (1, .int 40)] := hl
  have hx := C.x
  have hb := C.b
  refine lv_aload_n hx hb dX4_init_0 rfl (lv_at hl 0 rfl) ?_
  refine o_init C hl.1 tw_1_39 (Nat.le_of_ble_eq_true rfl) (Nat.le_of_ble_eq_true rfl) dX4_init_1 ?_
  refine lv_aload_n hx hb dX4_init_4 rfl (lv_at hl 0 rfl) ?_
  refine lv_iconst (v := 0) hx hb dX4_init_5 (by decide) ?_
  refine va_put (ci := 4) (v := .int 0) (ty := .int) (C := "OneOfTwo$Row") (T := TX4) (N := 3) hx hb C.1.2.2.2.2 in_X4 tyX4 tyX4_ok nmX4 C.1.2.2.2.1 C.2.1 hP hD hS 0 rfl rfl 1 (by decide) (C.1.2.2.2.2 _ tw_1_44) (fun _ h => h) rfl (by decide +kernel) rfl rfl (Nat.le_of_ble_eq_true rfl) dX4_init_6 (fun H locs hP hD hS => ?_)
  have hP : va_P D vwCl [(h0, .inr (4, [.null, .int 0, .int 0]))] H := hP
  have hD : va_D A [(h0, .inr (4, [.null, .int 0, .int 0]))] := hD
  refine lv_aload_n hx hb dX4_init_9 rfl (lv_at hl 0 rfl) ?_
  refine lv_iconst (v := 0) hx hb dX4_init_10 (by decide) ?_
  refine va_put (ci := 4) (v := .int 0) (ty := .int) (C := "OneOfTwo$Row") (T := TX4) (N := 3) hx hb C.1.2.2.2.2 in_X4 tyX4 tyX4_ok nmX4 C.1.2.2.2.1 C.2.1 hP hD hS 0 rfl rfl 2 (by decide) (C.1.2.2.2.2 _ tw_1_48) (fun _ h => h) rfl (by decide +kernel) rfl rfl (Nat.le_of_ble_eq_true rfl) dX4_init_11 (fun H locs hP hD hS => ?_)
  have hP : va_P D vwCl [(h0, .inr (4, [.null, .int 0, .int 0]))] H := hP
  have hD : va_D A [(h0, .inr (4, [.null, .int 0, .int 0]))] := hD
  refine lv_aload_n hx hb dX4_init_14 rfl (lv_at hl 0 rfl) ?_
  refine lv_iload_n hx hb dX4_init_15 rfl (lv_at hl 1 rfl) ?_
  refine nw_i (N := 40) C hP hD hS hA (by decide) (by decide) (Nat.le_of_ble_eq_true rfl) (Nat.le_of_ble_eq_true rfl) (Nat.le_of_ble_eq_true rfl) dX4_init_16 (fun q1 H hP hD hS => ?_)
  have hP : va_P D vwCl [(h0, .inr (4, [.null, .int 0, .int 0])), (q1, .inl (T 0, 40, .inl (fun _ => 0)))] H := hP
  have hD : va_D A [(h0, .inr (4, [.null, .int 0, .int 0])), (q1, .inl (T 0, 40, .inl (fun _ => 0)))] := hD
  refine W.cs (cells' := 1) (slots' := 40) rfl rfl ?_
  refine va_putF (ci := 4) (v := .ref q1) (ty := .array .int) (C := "OneOfTwo$Row") (T := TX4) (N := 3) hx hb C.1.2.2.2.2 in_X4 tyX4 tyX4_ok nmX4 C.1.2.2.2.1 C.2.1 hP hD hS 0 rfl rfl 0 (by decide) (C.1.2.2.2.2 _ tw_1_40) (fun _ h => h) rfl hin rfl (by decide +kernel) rfl rfl (Nat.le_of_ble_eq_true rfl) dX4_init_18 (fun H locs hP hD hS => ?_)
  have hP : va_P D vwCl [(h0, .inr (4, [.ref q1, .int 0, .int 0])), (q1, .inl (T 0, 40, .inl (fun _ => 0)))] H := hP
  have hD : va_D A [(h0, .inr (4, [.ref q1, .int 0, .int 0])), (q1, .inl (T 0, 40, .inl (fun _ => 0)))] := hD
  have hP := hP.sub (ws' := [(h0, .inr (4, [.ref q1, .int 0, .int 0])), (q1, .inl (T 0, 40, .inl (fun _ => 0)))]) [0, 1] rfl
  have hD := hD.sub (ws' := [(h0, .inr (4, [.ref q1, .int 0, .int 0])), (q1, .inl (T 0, 40, .inl (fun _ => 0)))]) [0, 1] (by decide) rfl
  exact W.vret hx hb hr (fun t ht hW => ⟨⟨fun k => ([q1] : List Nat).getD k 0, rfl, trivial, by rw [ht]; exact hP, hD⟩, hS.F ht⟩) hS.2.2 dX4_init_21 hlk
set_option maxRecDepth 100000 in
set_option maxHeartbeats 4000000 in
theorem c_X4_init_4_50 {l : Launch} {T : Nat → ClassId} {D : va_G} (h0 sz : Nat) : Met l yX4_init (Cond.code yX4_init cX4_init 2 none :: TB) (RC 1 1 50) (va_Pc [.ref h0, .int 50] (CtP T D [(h0, .inr (4, [.null, .int 0, .int 0]))] sz)) (QcC D (va_A [(h0, .inr (4, [.null, .int 0, .int 0]))] sz) (fun u => [(h0, .inr (4, [.ref (u 0), .int 0, .int 0])), ((u 0), .inl (T 0, 50, .inl (fun _ => 0)))])) 1 50 (va_A [(h0, .inr (4, [.null, .int 0, .int 0]))] sz) := by
  refine st_C (by decide) (Nat.le_of_ble_eq_true rfl) (fun p e s m args below meth c ls A C hr hlk hin hO hAe hA hP hD hS hl => ?_)
  rw [← hAe]
  clear hAe
  have hl : lv_has ls 2 [(0, .ref h0), (1, .int 50)] := hl
  have hx := C.x
  have hb := C.b
  refine lv_aload_n hx hb dX4_init_0 rfl (lv_at hl 0 rfl) ?_
  refine o_init C hl.1 tw_1_39 (Nat.le_of_ble_eq_true rfl) (Nat.le_of_ble_eq_true rfl) dX4_init_1 ?_
  refine lv_aload_n hx hb dX4_init_4 rfl (lv_at hl 0 rfl) ?_
  refine lv_iconst (v := 0) hx hb dX4_init_5 (by decide) ?_
  refine va_put (ci := 4) (v := .int 0) (ty := .int) (C := "OneOfTwo$Row") (T := TX4) (N := 3) hx hb C.1.2.2.2.2 in_X4 tyX4 tyX4_ok nmX4 C.1.2.2.2.1 C.2.1 hP hD hS 0 rfl rfl 1 (by decide) (C.1.2.2.2.2 _ tw_1_44) (fun _ h => h) rfl (by decide +kernel) rfl rfl (Nat.le_of_ble_eq_true rfl) dX4_init_6 (fun H locs hP hD hS => ?_)
  have hP : va_P D vwCl [(h0, .inr (4, [.null, .int 0, .int 0]))] H := hP
  have hD : va_D A [(h0, .inr (4, [.null, .int 0, .int 0]))] := hD
  refine lv_aload_n hx hb dX4_init_9 rfl (lv_at hl 0 rfl) ?_
  refine lv_iconst (v := 0) hx hb dX4_init_10 (by decide) ?_
  refine va_put (ci := 4) (v := .int 0) (ty := .int) (C := "OneOfTwo$Row") (T := TX4) (N := 3) hx hb C.1.2.2.2.2 in_X4 tyX4 tyX4_ok nmX4 C.1.2.2.2.1 C.2.1 hP hD hS 0 rfl rfl 2 (by decide) (C.1.2.2.2.2 _ tw_1_48) (fun _ h => h) rfl (by decide +kernel) rfl rfl (Nat.le_of_ble_eq_true rfl) dX4_init_11 (fun H locs hP hD hS => ?_)
  have hP : va_P D vwCl [(h0, .inr (4, [.null, .int 0, .int 0]))] H := hP
  have hD : va_D A [(h0, .inr (4, [.null, .int 0, .int 0]))] := hD
  refine lv_aload_n hx hb dX4_init_14 rfl (lv_at hl 0 rfl) ?_
  refine lv_iload_n hx hb dX4_init_15 rfl (lv_at hl 1 rfl) ?_
  refine nw_i (N := 50) C hP hD hS hA (by decide) (by decide) (Nat.le_of_ble_eq_true rfl) (Nat.le_of_ble_eq_true rfl) (Nat.le_of_ble_eq_true rfl) dX4_init_16 (fun q1 H hP hD hS => ?_)
  have hP : va_P D vwCl [(h0, .inr (4, [.null, .int 0, .int 0])), (q1, .inl (T 0, 50, .inl (fun _ => 0)))] H := hP
  have hD : va_D A [(h0, .inr (4, [.null, .int 0, .int 0])), (q1, .inl (T 0, 50, .inl (fun _ => 0)))] := hD
  refine W.cs (cells' := 1) (slots' := 50) rfl rfl ?_
  refine va_putF (ci := 4) (v := .ref q1) (ty := .array .int) (C := "OneOfTwo$Row") (T := TX4) (N := 3) hx hb C.1.2.2.2.2 in_X4 tyX4 tyX4_ok nmX4 C.1.2.2.2.1 C.2.1 hP hD hS 0 rfl rfl 0 (by decide) (C.1.2.2.2.2 _ tw_1_40) (fun _ h => h) rfl hin rfl (by decide +kernel) rfl rfl (Nat.le_of_ble_eq_true rfl) dX4_init_18 (fun H locs hP hD hS => ?_)
  have hP : va_P D vwCl [(h0, .inr (4, [.ref q1, .int 0, .int 0])), (q1, .inl (T 0, 50, .inl (fun _ => 0)))] H := hP
  have hD : va_D A [(h0, .inr (4, [.ref q1, .int 0, .int 0])), (q1, .inl (T 0, 50, .inl (fun _ => 0)))] := hD
  have hP := hP.sub (ws' := [(h0, .inr (4, [.ref q1, .int 0, .int 0])), (q1, .inl (T 0, 50, .inl (fun _ => 0)))]) [0, 1] rfl
  have hD := hD.sub (ws' := [(h0, .inr (4, [.ref q1, .int 0, .int 0])), (q1, .inl (T 0, 50, .inl (fun _ => 0)))]) [0, 1] (by decide) rfl
  exact W.vret hx hb hr (fun t ht hW => ⟨⟨fun k => ([q1] : List Nat).getD k 0, rfl, trivial, by rw [ht]; exact hP, hD⟩, hS.F ht⟩) hS.2.2 dX4_init_21 hlk
set_option maxRecDepth 100000 in
set_option maxHeartbeats 4000000 in
theorem c_X4_init_4_20 {l : Launch} {T : Nat → ClassId} {D : va_G} (h0 sz : Nat) : Met l yX4_init (Cond.code yX4_init cX4_init 2 none :: TB) (RC 1 1 20) (va_Pc [.ref h0, .int 20] (CtP T D [(h0, .inr (4, [.null, .int 0, .int 0]))] sz)) (QcC D (va_A [(h0, .inr (4, [.null, .int 0, .int 0]))] sz) (fun u => [(h0, .inr (4, [.ref (u 0), .int 0, .int 0])), ((u 0), .inl (T 0, 20, .inl (fun _ => 0)))])) 1 20 (va_A [(h0, .inr (4, [.null, .int 0, .int 0]))] sz) := by
  refine st_C (by decide) (Nat.le_of_ble_eq_true rfl) (fun p e s m args below meth c ls A C hr hlk hin hO hAe hA hP hD hS hl => ?_)
  rw [← hAe]
  clear hAe
  have hl : lv_has ls 2 [(0, .ref h0), (1, .int 20)] := hl
  have hx := C.x
  have hb := C.b
  refine lv_aload_n hx hb dX4_init_0 rfl (lv_at hl 0 rfl) ?_
  refine o_init C hl.1 tw_1_39 (Nat.le_of_ble_eq_true rfl) (Nat.le_of_ble_eq_true rfl) dX4_init_1 ?_
  refine lv_aload_n hx hb dX4_init_4 rfl (lv_at hl 0 rfl) ?_
  refine lv_iconst (v := 0) hx hb dX4_init_5 (by decide) ?_
  refine va_put (ci := 4) (v := .int 0) (ty := .int) (C := "OneOfTwo$Row") (T := TX4) (N := 3) hx hb C.1.2.2.2.2 in_X4 tyX4 tyX4_ok nmX4 C.1.2.2.2.1 C.2.1 hP hD hS 0 rfl rfl 1 (by decide) (C.1.2.2.2.2 _ tw_1_44) (fun _ h => h) rfl (by decide +kernel) rfl rfl (Nat.le_of_ble_eq_true rfl) dX4_init_6 (fun H locs hP hD hS => ?_)
  have hP : va_P D vwCl [(h0, .inr (4, [.null, .int 0, .int 0]))] H := hP
  have hD : va_D A [(h0, .inr (4, [.null, .int 0, .int 0]))] := hD
  refine lv_aload_n hx hb dX4_init_9 rfl (lv_at hl 0 rfl) ?_
  refine lv_iconst (v := 0) hx hb dX4_init_10 (by decide) ?_
  refine va_put (ci := 4) (v := .int 0) (ty := .int) (C := "OneOfTwo$Row") (T := TX4) (N := 3) hx hb C.1.2.2.2.2 in_X4 tyX4 tyX4_ok nmX4 C.1.2.2.2.1 C.2.1 hP hD hS 0 rfl rfl 2 (by decide) (C.1.2.2.2.2 _ tw_1_48) (fun _ h => h) rfl (by decide +kernel) rfl rfl (Nat.le_of_ble_eq_true rfl) dX4_init_11 (fun H locs hP hD hS => ?_)
  have hP : va_P D vwCl [(h0, .inr (4, [.null, .int 0, .int 0]))] H := hP
  have hD : va_D A [(h0, .inr (4, [.null, .int 0, .int 0]))] := hD
  refine lv_aload_n hx hb dX4_init_14 rfl (lv_at hl 0 rfl) ?_
  refine lv_iload_n hx hb dX4_init_15 rfl (lv_at hl 1 rfl) ?_
  refine nw_i (N := 20) C hP hD hS hA (by decide) (by decide) (Nat.le_of_ble_eq_true rfl) (Nat.le_of_ble_eq_true rfl) (Nat.le_of_ble_eq_true rfl) dX4_init_16 (fun q1 H hP hD hS => ?_)
  have hP : va_P D vwCl [(h0, .inr (4, [.null, .int 0, .int 0])), (q1, .inl (T 0, 20, .inl (fun _ => 0)))] H := hP
  have hD : va_D A [(h0, .inr (4, [.null, .int 0, .int 0])), (q1, .inl (T 0, 20, .inl (fun _ => 0)))] := hD
  refine W.cs (cells' := 1) (slots' := 20) rfl rfl ?_
  refine va_putF (ci := 4) (v := .ref q1) (ty := .array .int) (C := "OneOfTwo$Row") (T := TX4) (N := 3) hx hb C.1.2.2.2.2 in_X4 tyX4 tyX4_ok nmX4 C.1.2.2.2.1 C.2.1 hP hD hS 0 rfl rfl 0 (by decide) (C.1.2.2.2.2 _ tw_1_40) (fun _ h => h) rfl hin rfl (by decide +kernel) rfl rfl (Nat.le_of_ble_eq_true rfl) dX4_init_18 (fun H locs hP hD hS => ?_)
  have hP : va_P D vwCl [(h0, .inr (4, [.ref q1, .int 0, .int 0])), (q1, .inl (T 0, 20, .inl (fun _ => 0)))] H := hP
  have hD : va_D A [(h0, .inr (4, [.ref q1, .int 0, .int 0])), (q1, .inl (T 0, 20, .inl (fun _ => 0)))] := hD
  have hP := hP.sub (ws' := [(h0, .inr (4, [.ref q1, .int 0, .int 0])), (q1, .inl (T 0, 20, .inl (fun _ => 0)))]) [0, 1] rfl
  have hD := hD.sub (ws' := [(h0, .inr (4, [.ref q1, .int 0, .int 0])), (q1, .inl (T 0, 20, .inl (fun _ => 0)))]) [0, 1] (by decide) rfl
  exact W.vret hx hb hr (fun t ht hW => ⟨⟨fun k => ([q1] : List Nat).getD k 0, rfl, trivial, by rw [ht]; exact hP, hD⟩, hS.F ht⟩) hS.2.2 dX4_init_21 hlk
set_option maxRecDepth 100000 in
set_option maxHeartbeats 4000000 in
theorem c_X3_init_3 {l : Launch} {T : Nat → ClassId} {D : va_G} (h0 sz : Nat) (x1 : Int32) : Met l yX3_init (Cond.code yX3_init cX3_init 2 none :: TB) (RC 1 0 0) (va_Pc [.ref h0, .int x1] (CtP T D [(h0, .inr (3, [.int 0]))] sz)) (QcC D (va_A [(h0, .inr (3, [.int 0]))] sz) (fun u => [(h0, .inr (3, [.int x1]))])) 0 0 (va_A [(h0, .inr (3, [.int 0]))] sz) := by
  refine st_C (by decide) (Nat.le_of_ble_eq_true rfl) (fun p e s m args below meth c ls A C hr hlk hin hO hAe hA hP hD hS hl => ?_)
  rw [← hAe]
  clear hAe
  have hl : lv_has ls 2 [(0, .ref h0), (1, .int x1)] := hl
  have hx := C.x
  have hb := C.b
  refine lv_aload_n hx hb dX3_init_0 rfl (lv_at hl 0 rfl) ?_
  refine o_init C hl.1 tw_1_62 (Nat.le_of_ble_eq_true rfl) (Nat.le_of_ble_eq_true rfl) dX3_init_1 ?_
  refine lv_aload_n hx hb dX3_init_4 rfl (lv_at hl 0 rfl) ?_
  refine lv_iload_n hx hb dX3_init_5 rfl (lv_at hl 1 rfl) ?_
  refine va_putF (ci := 3) (v := .int x1) (ty := .int) (C := "OneOfTwo$Lodger") (T := TX3) (N := 1) hx hb C.1.2.2.2.2 in_X3 tyX3 tyX3_ok nmX3 C.1.2.2.2.1 C.2.1 hP hD hS 0 rfl rfl 0 (by decide) (C.1.2.2.2.2 _ tw_1_63) (fun _ h => h) rfl hin rfl (by decide +kernel) rfl rfl (Nat.le_of_ble_eq_true rfl) dX3_init_6 (fun H locs hP hD hS => ?_)
  have hP : va_P D vwCl [(h0, .inr (3, [.int x1]))] H := hP
  have hD : va_D A [(h0, .inr (3, [.int x1]))] := hD
  have hP := hP.sub (ws' := [(h0, .inr (3, [.int x1]))]) [0] rfl
  have hD := hD.sub (ws' := [(h0, .inr (3, [.int x1]))]) [0] (by decide) rfl
  exact W.vret hx hb hr (fun t ht hW => ⟨⟨fun _ => 0, rfl, trivial, by rw [ht]; exact hP, hD⟩, hS.F ht⟩) hS.2.2 dX3_init_9 hlk
set_option maxRecDepth 100000 in
set_option maxHeartbeats 4000000 in
theorem c_X3_init_0 {l : Launch} {T : Nat → ClassId} {D : va_G} (h0 sz : Nat) (x1 : Int32) : Met l yX3_init (Cond.code yX3_init cX3_init 2 none :: TB) (RC 1 0 0) (va_Pc [.ref h0, .int x1] (CtP T D [(h0, .inr (0, [.int 0]))] sz)) (QcC D (va_A [(h0, .inr (0, [.int 0]))] sz) (fun u => [(h0, .inr (0, [.int x1]))])) 0 0 (va_A [(h0, .inr (0, [.int 0]))] sz) := by
  refine st_C (by decide) (Nat.le_of_ble_eq_true rfl) (fun p e s m args below meth c ls A C hr hlk hin hO hAe hA hP hD hS hl => ?_)
  rw [← hAe]
  clear hAe
  have hl : lv_has ls 2 [(0, .ref h0), (1, .int x1)] := hl
  have hx := C.x
  have hb := C.b
  refine lv_aload_n hx hb dX3_init_0 rfl (lv_at hl 0 rfl) ?_
  refine o_init C hl.1 tw_1_62 (Nat.le_of_ble_eq_true rfl) (Nat.le_of_ble_eq_true rfl) dX3_init_1 ?_
  refine lv_aload_n hx hb dX3_init_4 rfl (lv_at hl 0 rfl) ?_
  refine lv_iload_n hx hb dX3_init_5 rfl (lv_at hl 1 rfl) ?_
  refine va_putF (ci := 0) (v := .int x1) (ty := .int) (C := "OneOfTwo$Cougher") (T := TX0) (N := 1) hx hb C.1.2.2.2.2 in_X0 tyX0 tyX0_ok nmX0 C.1.2.2.2.1 C.2.1 hP hD hS 0 rfl rfl 0 (by decide) (C.1.2.2.2.2 _ tw_1_63) (fun _ h => h) rfl hin rfl (by decide +kernel) rfl rfl (Nat.le_of_ble_eq_true rfl) dX3_init_6 (fun H locs hP hD hS => ?_)
  have hP : va_P D vwCl [(h0, .inr (0, [.int x1]))] H := hP
  have hD : va_D A [(h0, .inr (0, [.int x1]))] := hD
  have hP := hP.sub (ws' := [(h0, .inr (0, [.int x1]))]) [0] rfl
  have hD := hD.sub (ws' := [(h0, .inr (0, [.int x1]))]) [0] (by decide) rfl
  exact W.vret hx hb hr (fun t ht hW => ⟨⟨fun _ => 0, rfl, trivial, by rw [ht]; exact hP, hD⟩, hS.F ht⟩) hS.2.2 dX3_init_9 hlk
set_option maxRecDepth 100000 in
set_option maxHeartbeats 4000000 in
theorem c_X3_init_1 {l : Launch} {T : Nat → ClassId} {D : va_G} (h0 sz : Nat) (x1 : Int32) : Met l yX3_init (Cond.code yX3_init cX3_init 2 none :: TB) (RC 1 0 0) (va_Pc [.ref h0, .int x1] (CtP T D [(h0, .inr (1, [.int 0]))] sz)) (QcC D (va_A [(h0, .inr (1, [.int 0]))] sz) (fun u => [(h0, .inr (1, [.int x1]))])) 0 0 (va_A [(h0, .inr (1, [.int 0]))] sz) := by
  refine st_C (by decide) (Nat.le_of_ble_eq_true rfl) (fun p e s m args below meth c ls A C hr hlk hin hO hAe hA hP hD hS hl => ?_)
  rw [← hAe]
  clear hAe
  have hl : lv_has ls 2 [(0, .ref h0), (1, .int x1)] := hl
  have hx := C.x
  have hb := C.b
  refine lv_aload_n hx hb dX3_init_0 rfl (lv_at hl 0 rfl) ?_
  refine o_init C hl.1 tw_1_62 (Nat.le_of_ble_eq_true rfl) (Nat.le_of_ble_eq_true rfl) dX3_init_1 ?_
  refine lv_aload_n hx hb dX3_init_4 rfl (lv_at hl 0 rfl) ?_
  refine lv_iload_n hx hb dX3_init_5 rfl (lv_at hl 1 rfl) ?_
  refine va_putF (ci := 1) (v := .int x1) (ty := .int) (C := "OneOfTwo$Fevered") (T := TX1) (N := 1) hx hb C.1.2.2.2.2 in_X1 tyX1 tyX1_ok nmX1 C.1.2.2.2.1 C.2.1 hP hD hS 0 rfl rfl 0 (by decide) (C.1.2.2.2.2 _ tw_1_63) (fun _ h => h) rfl hin rfl (by decide +kernel) rfl rfl (Nat.le_of_ble_eq_true rfl) dX3_init_6 (fun H locs hP hD hS => ?_)
  have hP : va_P D vwCl [(h0, .inr (1, [.int x1]))] H := hP
  have hD : va_D A [(h0, .inr (1, [.int x1]))] := hD
  have hP := hP.sub (ws' := [(h0, .inr (1, [.int x1]))]) [0] rfl
  have hD := hD.sub (ws' := [(h0, .inr (1, [.int x1]))]) [0] (by decide) rfl
  exact W.vret hx hb hr (fun t ht hW => ⟨⟨fun _ => 0, rfl, trivial, by rw [ht]; exact hP, hD⟩, hS.F ht⟩) hS.2.2 dX3_init_9 hlk
set_option maxRecDepth 100000 in
set_option maxHeartbeats 4000000 in
theorem c_X3_init_7 {l : Launch} {T : Nat → ClassId} {D : va_G} (h0 sz : Nat) (x1 : Int32) : Met l yX3_init (Cond.code yX3_init cX3_init 2 none :: TB) (RC 1 0 0) (va_Pc [.ref h0, .int x1] (CtP T D [(h0, .inr (7, [.int 0]))] sz)) (QcC D (va_A [(h0, .inr (7, [.int 0]))] sz) (fun u => [(h0, .inr (7, [.int x1]))])) 0 0 (va_A [(h0, .inr (7, [.int 0]))] sz) := by
  refine st_C (by decide) (Nat.le_of_ble_eq_true rfl) (fun p e s m args below meth c ls A C hr hlk hin hO hAe hA hP hD hS hl => ?_)
  rw [← hAe]
  clear hAe
  have hl : lv_has ls 2 [(0, .ref h0), (1, .int x1)] := hl
  have hx := C.x
  have hb := C.b
  refine lv_aload_n hx hb dX3_init_0 rfl (lv_at hl 0 rfl) ?_
  refine o_init C hl.1 tw_1_62 (Nat.le_of_ble_eq_true rfl) (Nat.le_of_ble_eq_true rfl) dX3_init_1 ?_
  refine lv_aload_n hx hb dX3_init_4 rfl (lv_at hl 0 rfl) ?_
  refine lv_iload_n hx hb dX3_init_5 rfl (lv_at hl 1 rfl) ?_
  refine va_putF (ci := 7) (v := .int x1) (ty := .int) (C := "OneOfTwo$Smoker") (T := TX7) (N := 1) hx hb C.1.2.2.2.2 in_X7 tyX7 tyX7_ok nmX7 C.1.2.2.2.1 C.2.1 hP hD hS 0 rfl rfl 0 (by decide) (C.1.2.2.2.2 _ tw_1_63) (fun _ h => h) rfl hin rfl (by decide +kernel) rfl rfl (Nat.le_of_ble_eq_true rfl) dX3_init_6 (fun H locs hP hD hS => ?_)
  have hP : va_P D vwCl [(h0, .inr (7, [.int x1]))] H := hP
  have hD : va_D A [(h0, .inr (7, [.int x1]))] := hD
  have hP := hP.sub (ws' := [(h0, .inr (7, [.int x1]))]) [0] rfl
  have hD := hD.sub (ws' := [(h0, .inr (7, [.int x1]))]) [0] (by decide) rfl
  exact W.vret hx hb hr (fun t ht hW => ⟨⟨fun _ => 0, rfl, trivial, by rw [ht]; exact hP, hD⟩, hS.F ht⟩) hS.2.2 dX3_init_9 hlk
set_option maxRecDepth 100000 in
set_option maxHeartbeats 4000000 in
theorem c_X3_init_9 {l : Launch} {T : Nat → ClassId} {D : va_G} (h0 sz : Nat) (x1 : Int32) : Met l yX3_init (Cond.code yX3_init cX3_init 2 none :: TB) (RC 1 0 0) (va_Pc [.ref h0, .int x1] (CtP T D [(h0, .inr (9, [.int 0]))] sz)) (QcC D (va_A [(h0, .inr (9, [.int 0]))] sz) (fun u => [(h0, .inr (9, [.int x1]))])) 0 0 (va_A [(h0, .inr (9, [.int 0]))] sz) := by
  refine st_C (by decide) (Nat.le_of_ble_eq_true rfl) (fun p e s m args below meth c ls A C hr hlk hin hO hAe hA hP hD hS hl => ?_)
  rw [← hAe]
  clear hAe
  have hl : lv_has ls 2 [(0, .ref h0), (1, .int x1)] := hl
  have hx := C.x
  have hb := C.b
  refine lv_aload_n hx hb dX3_init_0 rfl (lv_at hl 0 rfl) ?_
  refine o_init C hl.1 tw_1_62 (Nat.le_of_ble_eq_true rfl) (Nat.le_of_ble_eq_true rfl) dX3_init_1 ?_
  refine lv_aload_n hx hb dX3_init_4 rfl (lv_at hl 0 rfl) ?_
  refine lv_iload_n hx hb dX3_init_5 rfl (lv_at hl 1 rfl) ?_
  refine va_putF (ci := 9) (v := .int x1) (ty := .int) (C := "OneOfTwo$Strong") (T := TX9) (N := 1) hx hb C.1.2.2.2.2 in_X9 tyX9 tyX9_ok nmX9 C.1.2.2.2.1 C.2.1 hP hD hS 0 rfl rfl 0 (by decide) (C.1.2.2.2.2 _ tw_1_63) (fun _ h => h) rfl hin rfl (by decide +kernel) rfl rfl (Nat.le_of_ble_eq_true rfl) dX3_init_6 (fun H locs hP hD hS => ?_)
  have hP : va_P D vwCl [(h0, .inr (9, [.int x1]))] H := hP
  have hD : va_D A [(h0, .inr (9, [.int x1]))] := hD
  have hP := hP.sub (ws' := [(h0, .inr (9, [.int x1]))]) [0] rfl
  have hD := hD.sub (ws' := [(h0, .inr (9, [.int x1]))]) [0] (by decide) rfl
  exact W.vret hx hb hr (fun t ht hW => ⟨⟨fun _ => 0, rfl, trivial, by rw [ht]; exact hP, hD⟩, hS.F ht⟩) hS.2.2 dX3_init_9 hlk
set_option maxRecDepth 100000 in
set_option maxHeartbeats 4000000 in
theorem c_X3_init_6 {l : Launch} {T : Nat → ClassId} {D : va_G} (h0 sz : Nat) (x1 : Int32) : Met l yX3_init (Cond.code yX3_init cX3_init 2 none :: TB) (RC 1 0 0) (va_Pc [.ref h0, .int x1] (CtP T D [(h0, .inr (6, [.int 0]))] sz)) (QcC D (va_A [(h0, .inr (6, [.int 0]))] sz) (fun u => [(h0, .inr (6, [.int x1]))])) 0 0 (va_A [(h0, .inr (6, [.int 0]))] sz) := by
  refine st_C (by decide) (Nat.le_of_ble_eq_true rfl) (fun p e s m args below meth c ls A C hr hlk hin hO hAe hA hP hD hS hl => ?_)
  rw [← hAe]
  clear hAe
  have hl : lv_has ls 2 [(0, .ref h0), (1, .int x1)] := hl
  have hx := C.x
  have hb := C.b
  refine lv_aload_n hx hb dX3_init_0 rfl (lv_at hl 0 rfl) ?_
  refine o_init C hl.1 tw_1_62 (Nat.le_of_ble_eq_true rfl) (Nat.le_of_ble_eq_true rfl) dX3_init_1 ?_
  refine lv_aload_n hx hb dX3_init_4 rfl (lv_at hl 0 rfl) ?_
  refine lv_iload_n hx hb dX3_init_5 rfl (lv_at hl 1 rfl) ?_
  refine va_putF (ci := 6) (v := .int x1) (ty := .int) (C := "OneOfTwo$Sleeper") (T := TX6) (N := 1) hx hb C.1.2.2.2.2 in_X6 tyX6 tyX6_ok nmX6 C.1.2.2.2.1 C.2.1 hP hD hS 0 rfl rfl 0 (by decide) (C.1.2.2.2.2 _ tw_1_63) (fun _ h => h) rfl hin rfl (by decide +kernel) rfl rfl (Nat.le_of_ble_eq_true rfl) dX3_init_6 (fun H locs hP hD hS => ?_)
  have hP : va_P D vwCl [(h0, .inr (6, [.int x1]))] H := hP
  have hD : va_D A [(h0, .inr (6, [.int x1]))] := hD
  have hP := hP.sub (ws' := [(h0, .inr (6, [.int x1]))]) [0] rfl
  have hD := hD.sub (ws' := [(h0, .inr (6, [.int x1]))]) [0] (by decide) rfl
  exact W.vret hx hb hr (fun t ht hW => ⟨⟨fun _ => 0, rfl, trivial, by rw [ht]; exact hP, hD⟩, hS.F ht⟩) hS.2.2 dX3_init_9 hlk
set_option maxRecDepth 100000 in
set_option maxHeartbeats 4000000 in
theorem c_X3_init_8 {l : Launch} {T : Nat → ClassId} {D : va_G} (h0 sz : Nat) (x1 : Int32) : Met l yX3_init (Cond.code yX3_init cX3_init 2 none :: TB) (RC 1 0 0) (va_Pc [.ref h0, .int x1] (CtP T D [(h0, .inr (8, [.int 0]))] sz)) (QcC D (va_A [(h0, .inr (8, [.int 0]))] sz) (fun u => [(h0, .inr (8, [.int x1]))])) 0 0 (va_A [(h0, .inr (8, [.int 0]))] sz) := by
  refine st_C (by decide) (Nat.le_of_ble_eq_true rfl) (fun p e s m args below meth c ls A C hr hlk hin hO hAe hA hP hD hS hl => ?_)
  rw [← hAe]
  clear hAe
  have hl : lv_has ls 2 [(0, .ref h0), (1, .int x1)] := hl
  have hx := C.x
  have hb := C.b
  refine lv_aload_n hx hb dX3_init_0 rfl (lv_at hl 0 rfl) ?_
  refine o_init C hl.1 tw_1_62 (Nat.le_of_ble_eq_true rfl) (Nat.le_of_ble_eq_true rfl) dX3_init_1 ?_
  refine lv_aload_n hx hb dX3_init_4 rfl (lv_at hl 0 rfl) ?_
  refine lv_iload_n hx hb dX3_init_5 rfl (lv_at hl 1 rfl) ?_
  refine va_putF (ci := 8) (v := .int x1) (ty := .int) (C := "OneOfTwo$Spiteful") (T := TX8) (N := 1) hx hb C.1.2.2.2.2 in_X8 tyX8 tyX8_ok nmX8 C.1.2.2.2.1 C.2.1 hP hD hS 0 rfl rfl 0 (by decide) (C.1.2.2.2.2 _ tw_1_63) (fun _ h => h) rfl hin rfl (by decide +kernel) rfl rfl (Nat.le_of_ble_eq_true rfl) dX3_init_6 (fun H locs hP hD hS => ?_)
  have hP : va_P D vwCl [(h0, .inr (8, [.int x1]))] H := hP
  have hD : va_D A [(h0, .inr (8, [.int x1]))] := hD
  have hP := hP.sub (ws' := [(h0, .inr (8, [.int x1]))]) [0] rfl
  have hD := hD.sub (ws' := [(h0, .inr (8, [.int x1]))]) [0] (by decide) rfl
  exact W.vret hx hb hr (fun t ht hW => ⟨⟨fun _ => 0, rfl, trivial, by rw [ht]; exact hP, hD⟩, hS.F ht⟩) hS.2.2 dX3_init_9 hlk
set_option maxRecDepth 100000 in
set_option maxHeartbeats 4000000 in
theorem c_X0_init_0 {l : Launch} {T : Nat → ClassId} {D : va_G} (h0 sz : Nat) (x1 : Int32) : Met l yX0_init (Cond.code yX0_init cX0_init 2 none :: TB) (RC 2 0 0) (va_Pc [.ref h0, .int x1] (CtP T D [(h0, .inr (0, [.int 0]))] sz)) (QcC D (va_A [(h0, .inr (0, [.int 0]))] sz) (fun u => [(h0, .inr (0, [.int x1]))])) 0 0 (va_A [(h0, .inr (0, [.int 0]))] sz) := by
  refine st_C (by decide) (Nat.le_of_ble_eq_true rfl) (fun p e s m args below meth c ls A C hr hlk hin hO hAe hA hP hD hS hl => ?_)
  rw [← hAe]
  clear hAe
  have hl : lv_has ls 2 [(0, .ref h0), (1, .int x1)] := hl
  have hx := C.x
  have hb := C.b
  refine lv_aload_n hx hb dX0_init_0 rfl (lv_at hl 0 rfl) ?_
  refine lv_iload_n hx hb dX0_init_1 rfl (lv_at hl 1 rfl) ?_
  have hPc := hP.sub (ws' := [(h0, .inr (0, [.int 0]))]) [0] rfl
  have hDc := hD.sub (ws' := [(h0, .inr (0, [.int 0]))]) [0] (by decide) rfl
  have hFc := va_free (wc := [(h0, .inr (0, [.int 0]))]) hD hS hA [0] rfl
  refine va_callv (va_runI (As := [.int x1]) (rest := []) C.1 (c_X3_init_0 h0 (s.heap.size) x1) (cwI 1 C.1.2.2.2.2 (gdT tw_1_61) rfl rfl rfl (C.1.2.2.2.2 _ tw_1_3) (C.1.2.2.2.2 _ tw_1_73) (C.1.2.2.2.2 _ tw_1_60) rfl (by decide +kernel) ⟨(Nat.le_of_ble_eq_true rfl), (Nat.le_of_ble_eq_true rfl)⟩) ⟨blC, fun U hU hW => ⟨rfl, by rw [hU], by rw [hU]; exact hPc, C.2.warm hW, hDc.weaken (fun _ _ _ _ => trivial), hO.warm hW⟩⟩ rfl rfl hl.1 rfl (lv_room (Nat.le_of_ble_eq_true rfl)) dX0_init_2 ⟨(Nat.le_of_ble_eq_true rfl), (Nat.le_of_ble_eq_true rfl)⟩) hS (fun q _ h => hFc q h) hFc (fun u1 t H1 locs ht hvm hw hB hz1 hk1 hS => ?_)
  obtain ⟨hP1, hD1⟩ := hB
  rw [ht] at hP1
  obtain ⟨hP, hD⟩ := va_join (wr := []) (w1 := [(h0, .inr (0, [.int x1]))]) hP hD [0] [] rfl rfl (by decide) (by decide) hk1 hFc hP1 hD1
  generalize H1 = H at hP hS ⊢
  have hP : va_P D vwCl [(h0, .inr (0, [.int x1]))] H := hP
  have hD : va_D A [(h0, .inr (0, [.int x1]))] := hD
  refine W.cs (cells' := 0) (slots' := 0) rfl rfl ?_
  have hP := hP.sub (ws' := [(h0, .inr (0, [.int x1]))]) [0] rfl
  have hD := hD.sub (ws' := [(h0, .inr (0, [.int x1]))]) [0] (by decide) rfl
  exact W.vret hx hb hr (fun t ht hW => ⟨⟨fun _ => 0, rfl, trivial, by rw [ht]; exact hP, hD⟩, hS.F ht⟩) hS.2.2 dX0_init_5 hlk
set_option maxRecDepth 100000 in
set_option maxHeartbeats 4000000 in
theorem c_X0_init_1 {l : Launch} {T : Nat → ClassId} {D : va_G} (h0 sz : Nat) (x1 : Int32) : Met l yX0_init (Cond.code yX0_init cX0_init 2 none :: TB) (RC 2 0 0) (va_Pc [.ref h0, .int x1] (CtP T D [(h0, .inr (1, [.int 0]))] sz)) (QcC D (va_A [(h0, .inr (1, [.int 0]))] sz) (fun u => [(h0, .inr (1, [.int x1]))])) 0 0 (va_A [(h0, .inr (1, [.int 0]))] sz) := by
  refine st_C (by decide) (Nat.le_of_ble_eq_true rfl) (fun p e s m args below meth c ls A C hr hlk hin hO hAe hA hP hD hS hl => ?_)
  rw [← hAe]
  clear hAe
  have hl : lv_has ls 2 [(0, .ref h0), (1, .int x1)] := hl
  have hx := C.x
  have hb := C.b
  refine lv_aload_n hx hb dX0_init_0 rfl (lv_at hl 0 rfl) ?_
  refine lv_iload_n hx hb dX0_init_1 rfl (lv_at hl 1 rfl) ?_
  have hPc := hP.sub (ws' := [(h0, .inr (1, [.int 0]))]) [0] rfl
  have hDc := hD.sub (ws' := [(h0, .inr (1, [.int 0]))]) [0] (by decide) rfl
  have hFc := va_free (wc := [(h0, .inr (1, [.int 0]))]) hD hS hA [0] rfl
  refine va_callv (va_runI (As := [.int x1]) (rest := []) C.1 (c_X3_init_1 h0 (s.heap.size) x1) (cwI 1 C.1.2.2.2.2 (gdT tw_1_61) rfl rfl rfl (C.1.2.2.2.2 _ tw_1_3) (C.1.2.2.2.2 _ tw_1_73) (C.1.2.2.2.2 _ tw_1_60) rfl (by decide +kernel) ⟨(Nat.le_of_ble_eq_true rfl), (Nat.le_of_ble_eq_true rfl)⟩) ⟨blC, fun U hU hW => ⟨rfl, by rw [hU], by rw [hU]; exact hPc, C.2.warm hW, hDc.weaken (fun _ _ _ _ => trivial), hO.warm hW⟩⟩ rfl rfl hl.1 rfl (lv_room (Nat.le_of_ble_eq_true rfl)) dX0_init_2 ⟨(Nat.le_of_ble_eq_true rfl), (Nat.le_of_ble_eq_true rfl)⟩) hS (fun q _ h => hFc q h) hFc (fun u1 t H1 locs ht hvm hw hB hz1 hk1 hS => ?_)
  obtain ⟨hP1, hD1⟩ := hB
  rw [ht] at hP1
  obtain ⟨hP, hD⟩ := va_join (wr := []) (w1 := [(h0, .inr (1, [.int x1]))]) hP hD [0] [] rfl rfl (by decide) (by decide) hk1 hFc hP1 hD1
  generalize H1 = H at hP hS ⊢
  have hP : va_P D vwCl [(h0, .inr (1, [.int x1]))] H := hP
  have hD : va_D A [(h0, .inr (1, [.int x1]))] := hD
  refine W.cs (cells' := 0) (slots' := 0) rfl rfl ?_
  have hP := hP.sub (ws' := [(h0, .inr (1, [.int x1]))]) [0] rfl
  have hD := hD.sub (ws' := [(h0, .inr (1, [.int x1]))]) [0] (by decide) rfl
  exact W.vret hx hb hr (fun t ht hW => ⟨⟨fun _ => 0, rfl, trivial, by rw [ht]; exact hP, hD⟩, hS.F ht⟩) hS.2.2 dX0_init_5 hlk
set_option maxRecDepth 100000 in
set_option maxHeartbeats 4000000 in
theorem c_X7_init_7 {l : Launch} {T : Nat → ClassId} {D : va_G} (h0 sz : Nat) (x1 : Int32) : Met l yX7_init (Cond.code yX7_init cX7_init 2 none :: TB) (RC 2 0 0) (va_Pc [.ref h0, .int x1] (CtP T D [(h0, .inr (7, [.int 0]))] sz)) (QcC D (va_A [(h0, .inr (7, [.int 0]))] sz) (fun u => [(h0, .inr (7, [.int x1]))])) 0 0 (va_A [(h0, .inr (7, [.int 0]))] sz) := by
  refine st_C (by decide) (Nat.le_of_ble_eq_true rfl) (fun p e s m args below meth c ls A C hr hlk hin hO hAe hA hP hD hS hl => ?_)
  rw [← hAe]
  clear hAe
  have hl : lv_has ls 2 [(0, .ref h0), (1, .int x1)] := hl
  have hx := C.x
  have hb := C.b
  refine lv_aload_n hx hb dX7_init_0 rfl (lv_at hl 0 rfl) ?_
  refine lv_iload_n hx hb dX7_init_1 rfl (lv_at hl 1 rfl) ?_
  have hPc := hP.sub (ws' := [(h0, .inr (7, [.int 0]))]) [0] rfl
  have hDc := hD.sub (ws' := [(h0, .inr (7, [.int 0]))]) [0] (by decide) rfl
  have hFc := va_free (wc := [(h0, .inr (7, [.int 0]))]) hD hS hA [0] rfl
  refine va_callv (va_runI (As := [.int x1]) (rest := []) C.1 (c_X3_init_7 h0 (s.heap.size) x1) (cwI 1 C.1.2.2.2.2 (gdT tw_1_61) rfl rfl rfl (C.1.2.2.2.2 _ tw_1_3) (C.1.2.2.2.2 _ tw_1_81) (C.1.2.2.2.2 _ tw_1_60) rfl (by decide +kernel) ⟨(Nat.le_of_ble_eq_true rfl), (Nat.le_of_ble_eq_true rfl)⟩) ⟨blC, fun U hU hW => ⟨rfl, by rw [hU], by rw [hU]; exact hPc, C.2.warm hW, hDc.weaken (fun _ _ _ _ => trivial), hO.warm hW⟩⟩ rfl rfl hl.1 rfl (lv_room (Nat.le_of_ble_eq_true rfl)) dX7_init_2 ⟨(Nat.le_of_ble_eq_true rfl), (Nat.le_of_ble_eq_true rfl)⟩) hS (fun q _ h => hFc q h) hFc (fun u1 t H1 locs ht hvm hw hB hz1 hk1 hS => ?_)
  obtain ⟨hP1, hD1⟩ := hB
  rw [ht] at hP1
  obtain ⟨hP, hD⟩ := va_join (wr := []) (w1 := [(h0, .inr (7, [.int x1]))]) hP hD [0] [] rfl rfl (by decide) (by decide) hk1 hFc hP1 hD1
  generalize H1 = H at hP hS ⊢
  have hP : va_P D vwCl [(h0, .inr (7, [.int x1]))] H := hP
  have hD : va_D A [(h0, .inr (7, [.int x1]))] := hD
  refine W.cs (cells' := 0) (slots' := 0) rfl rfl ?_
  have hP := hP.sub (ws' := [(h0, .inr (7, [.int x1]))]) [0] rfl
  have hD := hD.sub (ws' := [(h0, .inr (7, [.int x1]))]) [0] (by decide) rfl
  exact W.vret hx hb hr (fun t ht hW => ⟨⟨fun _ => 0, rfl, trivial, by rw [ht]; exact hP, hD⟩, hS.F ht⟩) hS.2.2 dX7_init_5 hlk
set_option maxRecDepth 100000 in
set_option maxHeartbeats 4000000 in
theorem c_X7_init_9 {l : Launch} {T : Nat → ClassId} {D : va_G} (h0 sz : Nat) (x1 : Int32) : Met l yX7_init (Cond.code yX7_init cX7_init 2 none :: TB) (RC 2 0 0) (va_Pc [.ref h0, .int x1] (CtP T D [(h0, .inr (9, [.int 0]))] sz)) (QcC D (va_A [(h0, .inr (9, [.int 0]))] sz) (fun u => [(h0, .inr (9, [.int x1]))])) 0 0 (va_A [(h0, .inr (9, [.int 0]))] sz) := by
  refine st_C (by decide) (Nat.le_of_ble_eq_true rfl) (fun p e s m args below meth c ls A C hr hlk hin hO hAe hA hP hD hS hl => ?_)
  rw [← hAe]
  clear hAe
  have hl : lv_has ls 2 [(0, .ref h0), (1, .int x1)] := hl
  have hx := C.x
  have hb := C.b
  refine lv_aload_n hx hb dX7_init_0 rfl (lv_at hl 0 rfl) ?_
  refine lv_iload_n hx hb dX7_init_1 rfl (lv_at hl 1 rfl) ?_
  have hPc := hP.sub (ws' := [(h0, .inr (9, [.int 0]))]) [0] rfl
  have hDc := hD.sub (ws' := [(h0, .inr (9, [.int 0]))]) [0] (by decide) rfl
  have hFc := va_free (wc := [(h0, .inr (9, [.int 0]))]) hD hS hA [0] rfl
  refine va_callv (va_runI (As := [.int x1]) (rest := []) C.1 (c_X3_init_9 h0 (s.heap.size) x1) (cwI 1 C.1.2.2.2.2 (gdT tw_1_61) rfl rfl rfl (C.1.2.2.2.2 _ tw_1_3) (C.1.2.2.2.2 _ tw_1_81) (C.1.2.2.2.2 _ tw_1_60) rfl (by decide +kernel) ⟨(Nat.le_of_ble_eq_true rfl), (Nat.le_of_ble_eq_true rfl)⟩) ⟨blC, fun U hU hW => ⟨rfl, by rw [hU], by rw [hU]; exact hPc, C.2.warm hW, hDc.weaken (fun _ _ _ _ => trivial), hO.warm hW⟩⟩ rfl rfl hl.1 rfl (lv_room (Nat.le_of_ble_eq_true rfl)) dX7_init_2 ⟨(Nat.le_of_ble_eq_true rfl), (Nat.le_of_ble_eq_true rfl)⟩) hS (fun q _ h => hFc q h) hFc (fun u1 t H1 locs ht hvm hw hB hz1 hk1 hS => ?_)
  obtain ⟨hP1, hD1⟩ := hB
  rw [ht] at hP1
  obtain ⟨hP, hD⟩ := va_join (wr := []) (w1 := [(h0, .inr (9, [.int x1]))]) hP hD [0] [] rfl rfl (by decide) (by decide) hk1 hFc hP1 hD1
  generalize H1 = H at hP hS ⊢
  have hP : va_P D vwCl [(h0, .inr (9, [.int x1]))] H := hP
  have hD : va_D A [(h0, .inr (9, [.int x1]))] := hD
  refine W.cs (cells' := 0) (slots' := 0) rfl rfl ?_
  have hP := hP.sub (ws' := [(h0, .inr (9, [.int x1]))]) [0] rfl
  have hD := hD.sub (ws' := [(h0, .inr (9, [.int x1]))]) [0] (by decide) rfl
  exact W.vret hx hb hr (fun t ht hW => ⟨⟨fun _ => 0, rfl, trivial, by rw [ht]; exact hP, hD⟩, hS.F ht⟩) hS.2.2 dX7_init_5 hlk
set_option maxRecDepth 100000 in
set_option maxHeartbeats 4000000 in
theorem c_X6_init_6 {l : Launch} {T : Nat → ClassId} {D : va_G} (h0 sz : Nat) (x1 : Int32) : Met l yX6_init (Cond.code yX6_init cX6_init 2 none :: TB) (RC 2 0 0) (va_Pc [.ref h0, .int x1] (CtP T D [(h0, .inr (6, [.int 0]))] sz)) (QcC D (va_A [(h0, .inr (6, [.int 0]))] sz) (fun u => [(h0, .inr (6, [.int x1]))])) 0 0 (va_A [(h0, .inr (6, [.int 0]))] sz) := by
  refine st_C (by decide) (Nat.le_of_ble_eq_true rfl) (fun p e s m args below meth c ls A C hr hlk hin hO hAe hA hP hD hS hl => ?_)
  rw [← hAe]
  clear hAe
  have hl : lv_has ls 2 [(0, .ref h0), (1, .int x1)] := hl
  have hx := C.x
  have hb := C.b
  refine lv_aload_n hx hb dX6_init_0 rfl (lv_at hl 0 rfl) ?_
  refine lv_iload_n hx hb dX6_init_1 rfl (lv_at hl 1 rfl) ?_
  have hPc := hP.sub (ws' := [(h0, .inr (6, [.int 0]))]) [0] rfl
  have hDc := hD.sub (ws' := [(h0, .inr (6, [.int 0]))]) [0] (by decide) rfl
  have hFc := va_free (wc := [(h0, .inr (6, [.int 0]))]) hD hS hA [0] rfl
  refine va_callv (va_runI (As := [.int x1]) (rest := []) C.1 (c_X3_init_6 h0 (s.heap.size) x1) (cwI 1 C.1.2.2.2.2 (gdT tw_1_61) rfl rfl rfl (C.1.2.2.2.2 _ tw_1_3) (C.1.2.2.2.2 _ tw_1_89) (C.1.2.2.2.2 _ tw_1_60) rfl (by decide +kernel) ⟨(Nat.le_of_ble_eq_true rfl), (Nat.le_of_ble_eq_true rfl)⟩) ⟨blC, fun U hU hW => ⟨rfl, by rw [hU], by rw [hU]; exact hPc, C.2.warm hW, hDc.weaken (fun _ _ _ _ => trivial), hO.warm hW⟩⟩ rfl rfl hl.1 rfl (lv_room (Nat.le_of_ble_eq_true rfl)) dX6_init_2 ⟨(Nat.le_of_ble_eq_true rfl), (Nat.le_of_ble_eq_true rfl)⟩) hS (fun q _ h => hFc q h) hFc (fun u1 t H1 locs ht hvm hw hB hz1 hk1 hS => ?_)
  obtain ⟨hP1, hD1⟩ := hB
  rw [ht] at hP1
  obtain ⟨hP, hD⟩ := va_join (wr := []) (w1 := [(h0, .inr (6, [.int x1]))]) hP hD [0] [] rfl rfl (by decide) (by decide) hk1 hFc hP1 hD1
  generalize H1 = H at hP hS ⊢
  have hP : va_P D vwCl [(h0, .inr (6, [.int x1]))] H := hP
  have hD : va_D A [(h0, .inr (6, [.int x1]))] := hD
  refine W.cs (cells' := 0) (slots' := 0) rfl rfl ?_
  have hP := hP.sub (ws' := [(h0, .inr (6, [.int x1]))]) [0] rfl
  have hD := hD.sub (ws' := [(h0, .inr (6, [.int x1]))]) [0] (by decide) rfl
  exact W.vret hx hb hr (fun t ht hW => ⟨⟨fun _ => 0, rfl, trivial, by rw [ht]; exact hP, hD⟩, hS.F ht⟩) hS.2.2 dX6_init_5 hlk
set_option maxRecDepth 100000 in
set_option maxHeartbeats 4000000 in
theorem c_X6_init_8 {l : Launch} {T : Nat → ClassId} {D : va_G} (h0 sz : Nat) (x1 : Int32) : Met l yX6_init (Cond.code yX6_init cX6_init 2 none :: TB) (RC 2 0 0) (va_Pc [.ref h0, .int x1] (CtP T D [(h0, .inr (8, [.int 0]))] sz)) (QcC D (va_A [(h0, .inr (8, [.int 0]))] sz) (fun u => [(h0, .inr (8, [.int x1]))])) 0 0 (va_A [(h0, .inr (8, [.int 0]))] sz) := by
  refine st_C (by decide) (Nat.le_of_ble_eq_true rfl) (fun p e s m args below meth c ls A C hr hlk hin hO hAe hA hP hD hS hl => ?_)
  rw [← hAe]
  clear hAe
  have hl : lv_has ls 2 [(0, .ref h0), (1, .int x1)] := hl
  have hx := C.x
  have hb := C.b
  refine lv_aload_n hx hb dX6_init_0 rfl (lv_at hl 0 rfl) ?_
  refine lv_iload_n hx hb dX6_init_1 rfl (lv_at hl 1 rfl) ?_
  have hPc := hP.sub (ws' := [(h0, .inr (8, [.int 0]))]) [0] rfl
  have hDc := hD.sub (ws' := [(h0, .inr (8, [.int 0]))]) [0] (by decide) rfl
  have hFc := va_free (wc := [(h0, .inr (8, [.int 0]))]) hD hS hA [0] rfl
  refine va_callv (va_runI (As := [.int x1]) (rest := []) C.1 (c_X3_init_8 h0 (s.heap.size) x1) (cwI 1 C.1.2.2.2.2 (gdT tw_1_61) rfl rfl rfl (C.1.2.2.2.2 _ tw_1_3) (C.1.2.2.2.2 _ tw_1_89) (C.1.2.2.2.2 _ tw_1_60) rfl (by decide +kernel) ⟨(Nat.le_of_ble_eq_true rfl), (Nat.le_of_ble_eq_true rfl)⟩) ⟨blC, fun U hU hW => ⟨rfl, by rw [hU], by rw [hU]; exact hPc, C.2.warm hW, hDc.weaken (fun _ _ _ _ => trivial), hO.warm hW⟩⟩ rfl rfl hl.1 rfl (lv_room (Nat.le_of_ble_eq_true rfl)) dX6_init_2 ⟨(Nat.le_of_ble_eq_true rfl), (Nat.le_of_ble_eq_true rfl)⟩) hS (fun q _ h => hFc q h) hFc (fun u1 t H1 locs ht hvm hw hB hz1 hk1 hS => ?_)
  obtain ⟨hP1, hD1⟩ := hB
  rw [ht] at hP1
  obtain ⟨hP, hD⟩ := va_join (wr := []) (w1 := [(h0, .inr (8, [.int x1]))]) hP hD [0] [] rfl rfl (by decide) (by decide) hk1 hFc hP1 hD1
  generalize H1 = H at hP hS ⊢
  have hP : va_P D vwCl [(h0, .inr (8, [.int x1]))] H := hP
  have hD : va_D A [(h0, .inr (8, [.int x1]))] := hD
  refine W.cs (cells' := 0) (slots' := 0) rfl rfl ?_
  have hP := hP.sub (ws' := [(h0, .inr (8, [.int x1]))]) [0] rfl
  have hD := hD.sub (ws' := [(h0, .inr (8, [.int x1]))]) [0] (by decide) rfl
  exact W.vret hx hb hr (fun t ht hW => ⟨⟨fun _ => 0, rfl, trivial, by rw [ht]; exact hP, hD⟩, hS.F ht⟩) hS.2.2 dX6_init_5 hlk
set_option maxRecDepth 100000 in
set_option maxHeartbeats 4000000 in
theorem c_X1_init_1 {l : Launch} {T : Nat → ClassId} {D : va_G} (h0 sz : Nat) (x1 : Int32) : Met l yX1_init (Cond.code yX1_init cX1_init 2 none :: TB) (RC 3 0 0) (va_Pc [.ref h0, .int x1] (CtP T D [(h0, .inr (1, [.int 0]))] sz)) (QcC D (va_A [(h0, .inr (1, [.int 0]))] sz) (fun u => [(h0, .inr (1, [.int x1]))])) 0 0 (va_A [(h0, .inr (1, [.int 0]))] sz) := by
  refine st_C (by decide) (Nat.le_of_ble_eq_true rfl) (fun p e s m args below meth c ls A C hr hlk hin hO hAe hA hP hD hS hl => ?_)
  rw [← hAe]
  clear hAe
  have hl : lv_has ls 2 [(0, .ref h0), (1, .int x1)] := hl
  have hx := C.x
  have hb := C.b
  refine lv_aload_n hx hb dX1_init_0 rfl (lv_at hl 0 rfl) ?_
  refine lv_iload_n hx hb dX1_init_1 rfl (lv_at hl 1 rfl) ?_
  have hPc := hP.sub (ws' := [(h0, .inr (1, [.int 0]))]) [0] rfl
  have hDc := hD.sub (ws' := [(h0, .inr (1, [.int 0]))]) [0] (by decide) rfl
  have hFc := va_free (wc := [(h0, .inr (1, [.int 0]))]) hD hS hA [0] rfl
  refine va_callv (va_runI (As := [.int x1]) (rest := []) C.1 (c_X0_init_1 h0 (s.heap.size) x1) (cwI 1 C.1.2.2.2.2 (gdT tw_1_72) rfl rfl rfl (C.1.2.2.2.2 _ tw_1_4) (C.1.2.2.2.2 _ tw_1_97) (C.1.2.2.2.2 _ tw_1_71) rfl (by decide +kernel) ⟨(Nat.le_of_ble_eq_true rfl), (Nat.le_of_ble_eq_true rfl)⟩) ⟨blC, fun U hU hW => ⟨rfl, by rw [hU], by rw [hU]; exact hPc, C.2.warm hW, hDc.weaken (fun _ _ _ _ => trivial), hO.warm hW⟩⟩ rfl rfl hl.1 rfl (lv_room (Nat.le_of_ble_eq_true rfl)) dX1_init_2 ⟨(Nat.le_of_ble_eq_true rfl), (Nat.le_of_ble_eq_true rfl)⟩) hS (fun q _ h => hFc q h) hFc (fun u1 t H1 locs ht hvm hw hB hz1 hk1 hS => ?_)
  obtain ⟨hP1, hD1⟩ := hB
  rw [ht] at hP1
  obtain ⟨hP, hD⟩ := va_join (wr := []) (w1 := [(h0, .inr (1, [.int x1]))]) hP hD [0] [] rfl rfl (by decide) (by decide) hk1 hFc hP1 hD1
  generalize H1 = H at hP hS ⊢
  have hP : va_P D vwCl [(h0, .inr (1, [.int x1]))] H := hP
  have hD : va_D A [(h0, .inr (1, [.int x1]))] := hD
  refine W.cs (cells' := 0) (slots' := 0) rfl rfl ?_
  have hP := hP.sub (ws' := [(h0, .inr (1, [.int x1]))]) [0] rfl
  have hD := hD.sub (ws' := [(h0, .inr (1, [.int x1]))]) [0] (by decide) rfl
  exact W.vret hx hb hr (fun t ht hW => ⟨⟨fun _ => 0, rfl, trivial, by rw [ht]; exact hP, hD⟩, hS.F ht⟩) hS.2.2 dX1_init_5 hlk
set_option maxRecDepth 100000 in
set_option maxHeartbeats 4000000 in
theorem c_X9_init_9 {l : Launch} {T : Nat → ClassId} {D : va_G} (h0 sz : Nat) (x1 : Int32) : Met l yX9_init (Cond.code yX9_init cX9_init 2 none :: TB) (RC 3 0 0) (va_Pc [.ref h0, .int x1] (CtP T D [(h0, .inr (9, [.int 0]))] sz)) (QcC D (va_A [(h0, .inr (9, [.int 0]))] sz) (fun u => [(h0, .inr (9, [.int x1]))])) 0 0 (va_A [(h0, .inr (9, [.int 0]))] sz) := by
  refine st_C (by decide) (Nat.le_of_ble_eq_true rfl) (fun p e s m args below meth c ls A C hr hlk hin hO hAe hA hP hD hS hl => ?_)
  rw [← hAe]
  clear hAe
  have hl : lv_has ls 2 [(0, .ref h0), (1, .int x1)] := hl
  have hx := C.x
  have hb := C.b
  refine lv_aload_n hx hb dX9_init_0 rfl (lv_at hl 0 rfl) ?_
  refine lv_iload_n hx hb dX9_init_1 rfl (lv_at hl 1 rfl) ?_
  have hPc := hP.sub (ws' := [(h0, .inr (9, [.int 0]))]) [0] rfl
  have hDc := hD.sub (ws' := [(h0, .inr (9, [.int 0]))]) [0] (by decide) rfl
  have hFc := va_free (wc := [(h0, .inr (9, [.int 0]))]) hD hS hA [0] rfl
  refine va_callv (va_runI (As := [.int x1]) (rest := []) C.1 (c_X7_init_9 h0 (s.heap.size) x1) (cwI 1 C.1.2.2.2.2 (gdT tw_1_80) rfl rfl rfl (C.1.2.2.2.2 _ tw_1_5) (C.1.2.2.2.2 _ tw_1_105) (C.1.2.2.2.2 _ tw_1_79) rfl (by decide +kernel) ⟨(Nat.le_of_ble_eq_true rfl), (Nat.le_of_ble_eq_true rfl)⟩) ⟨blC, fun U hU hW => ⟨rfl, by rw [hU], by rw [hU]; exact hPc, C.2.warm hW, hDc.weaken (fun _ _ _ _ => trivial), hO.warm hW⟩⟩ rfl rfl hl.1 rfl (lv_room (Nat.le_of_ble_eq_true rfl)) dX9_init_2 ⟨(Nat.le_of_ble_eq_true rfl), (Nat.le_of_ble_eq_true rfl)⟩) hS (fun q _ h => hFc q h) hFc (fun u1 t H1 locs ht hvm hw hB hz1 hk1 hS => ?_)
  obtain ⟨hP1, hD1⟩ := hB
  rw [ht] at hP1
  obtain ⟨hP, hD⟩ := va_join (wr := []) (w1 := [(h0, .inr (9, [.int x1]))]) hP hD [0] [] rfl rfl (by decide) (by decide) hk1 hFc hP1 hD1
  generalize H1 = H at hP hS ⊢
  have hP : va_P D vwCl [(h0, .inr (9, [.int x1]))] H := hP
  have hD : va_D A [(h0, .inr (9, [.int x1]))] := hD
  refine W.cs (cells' := 0) (slots' := 0) rfl rfl ?_
  have hP := hP.sub (ws' := [(h0, .inr (9, [.int x1]))]) [0] rfl
  have hD := hD.sub (ws' := [(h0, .inr (9, [.int x1]))]) [0] (by decide) rfl
  exact W.vret hx hb hr (fun t ht hW => ⟨⟨fun _ => 0, rfl, trivial, by rw [ht]; exact hP, hD⟩, hS.F ht⟩) hS.2.2 dX9_init_5 hlk
set_option maxRecDepth 100000 in
set_option maxHeartbeats 4000000 in
theorem c_X8_init_8 {l : Launch} {T : Nat → ClassId} {D : va_G} (h0 sz : Nat) (x1 : Int32) : Met l yX8_init (Cond.code yX8_init cX8_init 2 none :: TB) (RC 3 0 0) (va_Pc [.ref h0, .int x1] (CtP T D [(h0, .inr (8, [.int 0]))] sz)) (QcC D (va_A [(h0, .inr (8, [.int 0]))] sz) (fun u => [(h0, .inr (8, [.int x1]))])) 0 0 (va_A [(h0, .inr (8, [.int 0]))] sz) := by
  refine st_C (by decide) (Nat.le_of_ble_eq_true rfl) (fun p e s m args below meth c ls A C hr hlk hin hO hAe hA hP hD hS hl => ?_)
  rw [← hAe]
  clear hAe
  have hl : lv_has ls 2 [(0, .ref h0), (1, .int x1)] := hl
  have hx := C.x
  have hb := C.b
  refine lv_aload_n hx hb dX8_init_0 rfl (lv_at hl 0 rfl) ?_
  refine lv_iload_n hx hb dX8_init_1 rfl (lv_at hl 1 rfl) ?_
  have hPc := hP.sub (ws' := [(h0, .inr (8, [.int 0]))]) [0] rfl
  have hDc := hD.sub (ws' := [(h0, .inr (8, [.int 0]))]) [0] (by decide) rfl
  have hFc := va_free (wc := [(h0, .inr (8, [.int 0]))]) hD hS hA [0] rfl
  refine va_callv (va_runI (As := [.int x1]) (rest := []) C.1 (c_X6_init_8 h0 (s.heap.size) x1) (cwI 1 C.1.2.2.2.2 (gdT tw_1_88) rfl rfl rfl (C.1.2.2.2.2 _ tw_1_6) (C.1.2.2.2.2 _ tw_1_113) (C.1.2.2.2.2 _ tw_1_87) rfl (by decide +kernel) ⟨(Nat.le_of_ble_eq_true rfl), (Nat.le_of_ble_eq_true rfl)⟩) ⟨blC, fun U hU hW => ⟨rfl, by rw [hU], by rw [hU]; exact hPc, C.2.warm hW, hDc.weaken (fun _ _ _ _ => trivial), hO.warm hW⟩⟩ rfl rfl hl.1 rfl (lv_room (Nat.le_of_ble_eq_true rfl)) dX8_init_2 ⟨(Nat.le_of_ble_eq_true rfl), (Nat.le_of_ble_eq_true rfl)⟩) hS (fun q _ h => hFc q h) hFc (fun u1 t H1 locs ht hvm hw hB hz1 hk1 hS => ?_)
  obtain ⟨hP1, hD1⟩ := hB
  rw [ht] at hP1
  obtain ⟨hP, hD⟩ := va_join (wr := []) (w1 := [(h0, .inr (8, [.int x1]))]) hP hD [0] [] rfl rfl (by decide) (by decide) hk1 hFc hP1 hD1
  generalize H1 = H at hP hS ⊢
  have hP : va_P D vwCl [(h0, .inr (8, [.int x1]))] H := hP
  have hD : va_D A [(h0, .inr (8, [.int x1]))] := hD
  refine W.cs (cells' := 0) (slots' := 0) rfl rfl ?_
  have hP := hP.sub (ws' := [(h0, .inr (8, [.int x1]))]) [0] rfl
  have hD := hD.sub (ws' := [(h0, .inr (8, [.int x1]))]) [0] (by decide) rfl
  exact W.vret hx hb hr (fun t ht hW => ⟨⟨fun _ => 0, rfl, trivial, by rw [ht]; exact hP, hD⟩, hS.F ht⟩) hS.2.2 dX8_init_5 hlk
set_option maxRecDepth 100000 in
set_option maxHeartbeats 4000000 in
theorem c_X5_init_5 {l : Launch} {T : Nat → ClassId} {D : va_G} (h0 sz : Nat) (m1 : Nat) : Met l yX5_init (Cond.code yX5_init cX5_init 2 none :: TB) (RC 1 7 48) (va_Pc [.ref h0, .ref m1] (CtP T D [(h0, .inr (5, [.null, .null, .null, .null, .null, .null, .null, .null, .int 0, .int 0]))] sz)) (QcC D (va_A [(h0, .inr (5, [.null, .null, .null, .null, .null, .null, .null, .null, .int 0, .int 0]))] sz) (fun u => [(h0, .inr (5, [.ref m1, .ref (u 0), .ref (u 1), .ref (u 2), .ref (u 3), .ref (u 4), .ref (u 5), .ref (u 6), .int 0, .int 0])), ((u 0), .inl (T 0, 8, .inl (fun _ => 0))), ((u 1), .inl (T 0, 11, .inl (fun _ => 0))), ((u 2), .inl (T 0, 4, .inl (fun _ => 0))), ((u 3), .inl (T 0, 4, .inl (fun _ => 0))), ((u 4), .inl (T 0, 4, .inl (fun _ => 0))), ((u 5), .inl (T 0, 9, .inl (fun _ => 0))), ((u 6), .inl (T 0, 8, .inl (fun _ => 0)))])) 7 48 (va_A [(h0, .inr (5, [.null, .null, .null, .null, .null, .null, .null, .null, .int 0, .int 0]))] sz) := by
  refine st_C (by decide) (Nat.le_of_ble_eq_true rfl) (fun p e s m args below meth c ls A C hr hlk hin hO hAe hA hP hD hS hl => ?_)
  rw [← hAe]
  clear hAe
  have hl : lv_has ls 2 [(0, .ref h0), (1, .ref m1)] := hl
  have hx := C.x
  have hb := C.b
  refine lv_aload_n hx hb dX5_init_0 rfl (lv_at hl 0 rfl) ?_
  refine o_init C hl.1 tw_1_217 (Nat.le_of_ble_eq_true rfl) (Nat.le_of_ble_eq_true rfl) dX5_init_1 ?_
  refine lv_aload_n hx hb dX5_init_4 rfl (lv_at hl 0 rfl) ?_
  refine lv_bipush (v := 8) hx hb dX5_init_5 (by decide) ?_
  refine nw_i (N := 8) C hP hD hS hA (by decide) (by decide) (Nat.le_of_ble_eq_true rfl) (Nat.le_of_ble_eq_true rfl) (Nat.le_of_ble_eq_true rfl) dX5_init_7 (fun q1 H hP hD hS => ?_)
  have hP : va_P D vwCl [(h0, .inr (5, [.null, .null, .null, .null, .null, .null, .null, .null, .int 0, .int 0])), (q1, .inl (T 0, 8, .inl (fun _ => 0)))] H := hP
  have hD : va_D A [(h0, .inr (5, [.null, .null, .null, .null, .null, .null, .null, .null, .int 0, .int 0])), (q1, .inl (T 0, 8, .inl (fun _ => 0)))] := hD
  refine W.cs (cells' := 1) (slots' := 8) rfl rfl ?_
  refine va_putF (ci := 5) (v := .ref q1) (ty := .array .int) (C := "OneOfTwo$Search") (T := TX5) (N := 10) hx hb C.1.2.2.2.2 in_X5 tyX5 tyX5_ok nmX5 C.1.2.2.2.1 C.2.1 hP hD hS 0 rfl rfl 1 (by decide) (C.1.2.2.2.2 _ tw_1_219) (fun _ h => h) rfl hin rfl (by decide +kernel) rfl rfl (Nat.le_of_ble_eq_true rfl) dX5_init_9 (fun H locs hP hD hS => ?_)
  have hP : va_P D vwCl [(h0, .inr (5, [.null, .ref q1, .null, .null, .null, .null, .null, .null, .int 0, .int 0])), (q1, .inl (T 0, 8, .inl (fun _ => 0)))] H := hP
  have hD : va_D A [(h0, .inr (5, [.null, .ref q1, .null, .null, .null, .null, .null, .null, .int 0, .int 0])), (q1, .inl (T 0, 8, .inl (fun _ => 0)))] := hD
  refine lv_aload_n hx hb dX5_init_12 rfl (lv_at hl 0 rfl) ?_
  refine lv_bipush (v := 11) hx hb dX5_init_13 (by decide) ?_
  refine nw_i (N := 11) C hP hD hS hA (by decide) (by decide) (Nat.le_of_ble_eq_true rfl) (Nat.le_of_ble_eq_true rfl) (Nat.le_of_ble_eq_true rfl) dX5_init_15 (fun q2 H hP hD hS => ?_)
  have hP : va_P D vwCl [(h0, .inr (5, [.null, .ref q1, .null, .null, .null, .null, .null, .null, .int 0, .int 0])), (q1, .inl (T 0, 8, .inl (fun _ => 0))), (q2, .inl (T 0, 11, .inl (fun _ => 0)))] H := hP
  have hD : va_D A [(h0, .inr (5, [.null, .ref q1, .null, .null, .null, .null, .null, .null, .int 0, .int 0])), (q1, .inl (T 0, 8, .inl (fun _ => 0))), (q2, .inl (T 0, 11, .inl (fun _ => 0)))] := hD
  refine W.cs (cells' := 2) (slots' := 19) rfl rfl ?_
  refine va_putF (ci := 5) (v := .ref q2) (ty := .array .int) (C := "OneOfTwo$Search") (T := TX5) (N := 10) hx hb C.1.2.2.2.2 in_X5 tyX5 tyX5_ok nmX5 C.1.2.2.2.1 C.2.1 hP hD hS 0 rfl rfl 2 (by decide) (C.1.2.2.2.2 _ tw_1_220) (fun _ h => h) rfl hin rfl (by decide +kernel) rfl rfl (Nat.le_of_ble_eq_true rfl) dX5_init_17 (fun H locs hP hD hS => ?_)
  have hP : va_P D vwCl [(h0, .inr (5, [.null, .ref q1, .ref q2, .null, .null, .null, .null, .null, .int 0, .int 0])), (q1, .inl (T 0, 8, .inl (fun _ => 0))), (q2, .inl (T 0, 11, .inl (fun _ => 0)))] H := hP
  have hD : va_D A [(h0, .inr (5, [.null, .ref q1, .ref q2, .null, .null, .null, .null, .null, .int 0, .int 0])), (q1, .inl (T 0, 8, .inl (fun _ => 0))), (q2, .inl (T 0, 11, .inl (fun _ => 0)))] := hD
  refine lv_aload_n hx hb dX5_init_20 rfl (lv_at hl 0 rfl) ?_
  refine lv_iconst (v := 4) hx hb dX5_init_21 (by decide) ?_
  refine nw_i (N := 4) C hP hD hS hA (by decide) (by decide) (Nat.le_of_ble_eq_true rfl) (Nat.le_of_ble_eq_true rfl) (Nat.le_of_ble_eq_true rfl) dX5_init_22 (fun q3 H hP hD hS => ?_)
  have hP : va_P D vwCl [(h0, .inr (5, [.null, .ref q1, .ref q2, .null, .null, .null, .null, .null, .int 0, .int 0])), (q1, .inl (T 0, 8, .inl (fun _ => 0))), (q2, .inl (T 0, 11, .inl (fun _ => 0))), (q3, .inl (T 0, 4, .inl (fun _ => 0)))] H := hP
  have hD : va_D A [(h0, .inr (5, [.null, .ref q1, .ref q2, .null, .null, .null, .null, .null, .int 0, .int 0])), (q1, .inl (T 0, 8, .inl (fun _ => 0))), (q2, .inl (T 0, 11, .inl (fun _ => 0))), (q3, .inl (T 0, 4, .inl (fun _ => 0)))] := hD
  refine W.cs (cells' := 3) (slots' := 23) rfl rfl ?_
  refine va_putF (ci := 5) (v := .ref q3) (ty := .array .int) (C := "OneOfTwo$Search") (T := TX5) (N := 10) hx hb C.1.2.2.2.2 in_X5 tyX5 tyX5_ok nmX5 C.1.2.2.2.1 C.2.1 hP hD hS 0 rfl rfl 3 (by decide) (C.1.2.2.2.2 _ tw_1_221) (fun _ h => h) rfl hin rfl (by decide +kernel) rfl rfl (Nat.le_of_ble_eq_true rfl) dX5_init_24 (fun H locs hP hD hS => ?_)
  have hP : va_P D vwCl [(h0, .inr (5, [.null, .ref q1, .ref q2, .ref q3, .null, .null, .null, .null, .int 0, .int 0])), (q1, .inl (T 0, 8, .inl (fun _ => 0))), (q2, .inl (T 0, 11, .inl (fun _ => 0))), (q3, .inl (T 0, 4, .inl (fun _ => 0)))] H := hP
  have hD : va_D A [(h0, .inr (5, [.null, .ref q1, .ref q2, .ref q3, .null, .null, .null, .null, .int 0, .int 0])), (q1, .inl (T 0, 8, .inl (fun _ => 0))), (q2, .inl (T 0, 11, .inl (fun _ => 0))), (q3, .inl (T 0, 4, .inl (fun _ => 0)))] := hD
  refine lv_aload_n hx hb dX5_init_27 rfl (lv_at hl 0 rfl) ?_
  refine lv_iconst (v := 4) hx hb dX5_init_28 (by decide) ?_
  refine nw_i (N := 4) C hP hD hS hA (by decide) (by decide) (Nat.le_of_ble_eq_true rfl) (Nat.le_of_ble_eq_true rfl) (Nat.le_of_ble_eq_true rfl) dX5_init_29 (fun q4 H hP hD hS => ?_)
  have hP : va_P D vwCl [(h0, .inr (5, [.null, .ref q1, .ref q2, .ref q3, .null, .null, .null, .null, .int 0, .int 0])), (q1, .inl (T 0, 8, .inl (fun _ => 0))), (q2, .inl (T 0, 11, .inl (fun _ => 0))), (q3, .inl (T 0, 4, .inl (fun _ => 0))), (q4, .inl (T 0, 4, .inl (fun _ => 0)))] H := hP
  have hD : va_D A [(h0, .inr (5, [.null, .ref q1, .ref q2, .ref q3, .null, .null, .null, .null, .int 0, .int 0])), (q1, .inl (T 0, 8, .inl (fun _ => 0))), (q2, .inl (T 0, 11, .inl (fun _ => 0))), (q3, .inl (T 0, 4, .inl (fun _ => 0))), (q4, .inl (T 0, 4, .inl (fun _ => 0)))] := hD
  refine W.cs (cells' := 4) (slots' := 27) rfl rfl ?_
  refine va_putF (ci := 5) (v := .ref q4) (ty := .array .int) (C := "OneOfTwo$Search") (T := TX5) (N := 10) hx hb C.1.2.2.2.2 in_X5 tyX5 tyX5_ok nmX5 C.1.2.2.2.1 C.2.1 hP hD hS 0 rfl rfl 4 (by decide) (C.1.2.2.2.2 _ tw_1_222) (fun _ h => h) rfl hin rfl (by decide +kernel) rfl rfl (Nat.le_of_ble_eq_true rfl) dX5_init_31 (fun H locs hP hD hS => ?_)
  have hP : va_P D vwCl [(h0, .inr (5, [.null, .ref q1, .ref q2, .ref q3, .ref q4, .null, .null, .null, .int 0, .int 0])), (q1, .inl (T 0, 8, .inl (fun _ => 0))), (q2, .inl (T 0, 11, .inl (fun _ => 0))), (q3, .inl (T 0, 4, .inl (fun _ => 0))), (q4, .inl (T 0, 4, .inl (fun _ => 0)))] H := hP
  have hD : va_D A [(h0, .inr (5, [.null, .ref q1, .ref q2, .ref q3, .ref q4, .null, .null, .null, .int 0, .int 0])), (q1, .inl (T 0, 8, .inl (fun _ => 0))), (q2, .inl (T 0, 11, .inl (fun _ => 0))), (q3, .inl (T 0, 4, .inl (fun _ => 0))), (q4, .inl (T 0, 4, .inl (fun _ => 0)))] := hD
  refine lv_aload_n hx hb dX5_init_34 rfl (lv_at hl 0 rfl) ?_
  refine lv_iconst (v := 4) hx hb dX5_init_35 (by decide) ?_
  refine nw_i (N := 4) C hP hD hS hA (by decide) (by decide) (Nat.le_of_ble_eq_true rfl) (Nat.le_of_ble_eq_true rfl) (Nat.le_of_ble_eq_true rfl) dX5_init_36 (fun q5 H hP hD hS => ?_)
  have hP : va_P D vwCl [(h0, .inr (5, [.null, .ref q1, .ref q2, .ref q3, .ref q4, .null, .null, .null, .int 0, .int 0])), (q1, .inl (T 0, 8, .inl (fun _ => 0))), (q2, .inl (T 0, 11, .inl (fun _ => 0))), (q3, .inl (T 0, 4, .inl (fun _ => 0))), (q4, .inl (T 0, 4, .inl (fun _ => 0))), (q5, .inl (T 0, 4, .inl (fun _ => 0)))] H := hP
  have hD : va_D A [(h0, .inr (5, [.null, .ref q1, .ref q2, .ref q3, .ref q4, .null, .null, .null, .int 0, .int 0])), (q1, .inl (T 0, 8, .inl (fun _ => 0))), (q2, .inl (T 0, 11, .inl (fun _ => 0))), (q3, .inl (T 0, 4, .inl (fun _ => 0))), (q4, .inl (T 0, 4, .inl (fun _ => 0))), (q5, .inl (T 0, 4, .inl (fun _ => 0)))] := hD
  refine W.cs (cells' := 5) (slots' := 31) rfl rfl ?_
  refine va_putF (ci := 5) (v := .ref q5) (ty := .array .int) (C := "OneOfTwo$Search") (T := TX5) (N := 10) hx hb C.1.2.2.2.2 in_X5 tyX5 tyX5_ok nmX5 C.1.2.2.2.1 C.2.1 hP hD hS 0 rfl rfl 5 (by decide) (C.1.2.2.2.2 _ tw_1_223) (fun _ h => h) rfl hin rfl (by decide +kernel) rfl rfl (Nat.le_of_ble_eq_true rfl) dX5_init_38 (fun H locs hP hD hS => ?_)
  have hP : va_P D vwCl [(h0, .inr (5, [.null, .ref q1, .ref q2, .ref q3, .ref q4, .ref q5, .null, .null, .int 0, .int 0])), (q1, .inl (T 0, 8, .inl (fun _ => 0))), (q2, .inl (T 0, 11, .inl (fun _ => 0))), (q3, .inl (T 0, 4, .inl (fun _ => 0))), (q4, .inl (T 0, 4, .inl (fun _ => 0))), (q5, .inl (T 0, 4, .inl (fun _ => 0)))] H := hP
  have hD : va_D A [(h0, .inr (5, [.null, .ref q1, .ref q2, .ref q3, .ref q4, .ref q5, .null, .null, .int 0, .int 0])), (q1, .inl (T 0, 8, .inl (fun _ => 0))), (q2, .inl (T 0, 11, .inl (fun _ => 0))), (q3, .inl (T 0, 4, .inl (fun _ => 0))), (q4, .inl (T 0, 4, .inl (fun _ => 0))), (q5, .inl (T 0, 4, .inl (fun _ => 0)))] := hD
  refine lv_aload_n hx hb dX5_init_41 rfl (lv_at hl 0 rfl) ?_
  refine lv_bipush (v := 9) hx hb dX5_init_42 (by decide) ?_
  refine nw_i (N := 9) C hP hD hS hA (by decide) (by decide) (Nat.le_of_ble_eq_true rfl) (Nat.le_of_ble_eq_true rfl) (Nat.le_of_ble_eq_true rfl) dX5_init_44 (fun q6 H hP hD hS => ?_)
  have hP : va_P D vwCl [(h0, .inr (5, [.null, .ref q1, .ref q2, .ref q3, .ref q4, .ref q5, .null, .null, .int 0, .int 0])), (q1, .inl (T 0, 8, .inl (fun _ => 0))), (q2, .inl (T 0, 11, .inl (fun _ => 0))), (q3, .inl (T 0, 4, .inl (fun _ => 0))), (q4, .inl (T 0, 4, .inl (fun _ => 0))), (q5, .inl (T 0, 4, .inl (fun _ => 0))), (q6, .inl (T 0, 9, .inl (fun _ => 0)))] H := hP
  have hD : va_D A [(h0, .inr (5, [.null, .ref q1, .ref q2, .ref q3, .ref q4, .ref q5, .null, .null, .int 0, .int 0])), (q1, .inl (T 0, 8, .inl (fun _ => 0))), (q2, .inl (T 0, 11, .inl (fun _ => 0))), (q3, .inl (T 0, 4, .inl (fun _ => 0))), (q4, .inl (T 0, 4, .inl (fun _ => 0))), (q5, .inl (T 0, 4, .inl (fun _ => 0))), (q6, .inl (T 0, 9, .inl (fun _ => 0)))] := hD
  refine W.cs (cells' := 6) (slots' := 40) rfl rfl ?_
  refine va_putF (ci := 5) (v := .ref q6) (ty := .array .int) (C := "OneOfTwo$Search") (T := TX5) (N := 10) hx hb C.1.2.2.2.2 in_X5 tyX5 tyX5_ok nmX5 C.1.2.2.2.1 C.2.1 hP hD hS 0 rfl rfl 6 (by decide) (C.1.2.2.2.2 _ tw_1_224) (fun _ h => h) rfl hin rfl (by decide +kernel) rfl rfl (Nat.le_of_ble_eq_true rfl) dX5_init_46 (fun H locs hP hD hS => ?_)
  have hP : va_P D vwCl [(h0, .inr (5, [.null, .ref q1, .ref q2, .ref q3, .ref q4, .ref q5, .ref q6, .null, .int 0, .int 0])), (q1, .inl (T 0, 8, .inl (fun _ => 0))), (q2, .inl (T 0, 11, .inl (fun _ => 0))), (q3, .inl (T 0, 4, .inl (fun _ => 0))), (q4, .inl (T 0, 4, .inl (fun _ => 0))), (q5, .inl (T 0, 4, .inl (fun _ => 0))), (q6, .inl (T 0, 9, .inl (fun _ => 0)))] H := hP
  have hD : va_D A [(h0, .inr (5, [.null, .ref q1, .ref q2, .ref q3, .ref q4, .ref q5, .ref q6, .null, .int 0, .int 0])), (q1, .inl (T 0, 8, .inl (fun _ => 0))), (q2, .inl (T 0, 11, .inl (fun _ => 0))), (q3, .inl (T 0, 4, .inl (fun _ => 0))), (q4, .inl (T 0, 4, .inl (fun _ => 0))), (q5, .inl (T 0, 4, .inl (fun _ => 0))), (q6, .inl (T 0, 9, .inl (fun _ => 0)))] := hD
  refine lv_aload_n hx hb dX5_init_49 rfl (lv_at hl 0 rfl) ?_
  refine lv_bipush (v := 8) hx hb dX5_init_50 (by decide) ?_
  refine nw_i (N := 8) C hP hD hS hA (by decide) (by decide) (Nat.le_of_ble_eq_true rfl) (Nat.le_of_ble_eq_true rfl) (Nat.le_of_ble_eq_true rfl) dX5_init_52 (fun q7 H hP hD hS => ?_)
  have hP : va_P D vwCl [(h0, .inr (5, [.null, .ref q1, .ref q2, .ref q3, .ref q4, .ref q5, .ref q6, .null, .int 0, .int 0])), (q1, .inl (T 0, 8, .inl (fun _ => 0))), (q2, .inl (T 0, 11, .inl (fun _ => 0))), (q3, .inl (T 0, 4, .inl (fun _ => 0))), (q4, .inl (T 0, 4, .inl (fun _ => 0))), (q5, .inl (T 0, 4, .inl (fun _ => 0))), (q6, .inl (T 0, 9, .inl (fun _ => 0))), (q7, .inl (T 0, 8, .inl (fun _ => 0)))] H := hP
  have hD : va_D A [(h0, .inr (5, [.null, .ref q1, .ref q2, .ref q3, .ref q4, .ref q5, .ref q6, .null, .int 0, .int 0])), (q1, .inl (T 0, 8, .inl (fun _ => 0))), (q2, .inl (T 0, 11, .inl (fun _ => 0))), (q3, .inl (T 0, 4, .inl (fun _ => 0))), (q4, .inl (T 0, 4, .inl (fun _ => 0))), (q5, .inl (T 0, 4, .inl (fun _ => 0))), (q6, .inl (T 0, 9, .inl (fun _ => 0))), (q7, .inl (T 0, 8, .inl (fun _ => 0)))] := hD
  refine W.cs (cells' := 7) (slots' := 48) rfl rfl ?_
  refine va_putF (ci := 5) (v := .ref q7) (ty := .array .int) (C := "OneOfTwo$Search") (T := TX5) (N := 10) hx hb C.1.2.2.2.2 in_X5 tyX5 tyX5_ok nmX5 C.1.2.2.2.1 C.2.1 hP hD hS 0 rfl rfl 7 (by decide) (C.1.2.2.2.2 _ tw_1_225) (fun _ h => h) rfl hin rfl (by decide +kernel) rfl rfl (Nat.le_of_ble_eq_true rfl) dX5_init_54 (fun H locs hP hD hS => ?_)
  have hP : va_P D vwCl [(h0, .inr (5, [.null, .ref q1, .ref q2, .ref q3, .ref q4, .ref q5, .ref q6, .ref q7, .int 0, .int 0])), (q1, .inl (T 0, 8, .inl (fun _ => 0))), (q2, .inl (T 0, 11, .inl (fun _ => 0))), (q3, .inl (T 0, 4, .inl (fun _ => 0))), (q4, .inl (T 0, 4, .inl (fun _ => 0))), (q5, .inl (T 0, 4, .inl (fun _ => 0))), (q6, .inl (T 0, 9, .inl (fun _ => 0))), (q7, .inl (T 0, 8, .inl (fun _ => 0)))] H := hP
  have hD : va_D A [(h0, .inr (5, [.null, .ref q1, .ref q2, .ref q3, .ref q4, .ref q5, .ref q6, .ref q7, .int 0, .int 0])), (q1, .inl (T 0, 8, .inl (fun _ => 0))), (q2, .inl (T 0, 11, .inl (fun _ => 0))), (q3, .inl (T 0, 4, .inl (fun _ => 0))), (q4, .inl (T 0, 4, .inl (fun _ => 0))), (q5, .inl (T 0, 4, .inl (fun _ => 0))), (q6, .inl (T 0, 9, .inl (fun _ => 0))), (q7, .inl (T 0, 8, .inl (fun _ => 0)))] := hD
  refine lv_aload_n hx hb dX5_init_57 rfl (lv_at hl 0 rfl) ?_
  refine lv_iconst (v := 0) hx hb dX5_init_58 (by decide) ?_
  refine va_put (ci := 5) (v := .int 0) (ty := .int) (C := "OneOfTwo$Search") (T := TX5) (N := 10) hx hb C.1.2.2.2.2 in_X5 tyX5 tyX5_ok nmX5 C.1.2.2.2.1 C.2.1 hP hD hS 0 rfl rfl 8 (by decide) (C.1.2.2.2.2 _ tw_1_227) (fun _ h => h) rfl (by decide +kernel) rfl rfl (Nat.le_of_ble_eq_true rfl) dX5_init_59 (fun H locs hP hD hS => ?_)
  have hP : va_P D vwCl [(h0, .inr (5, [.null, .ref q1, .ref q2, .ref q3, .ref q4, .ref q5, .ref q6, .ref q7, .int 0, .int 0])), (q1, .inl (T 0, 8, .inl (fun _ => 0))), (q2, .inl (T 0, 11, .inl (fun _ => 0))), (q3, .inl (T 0, 4, .inl (fun _ => 0))), (q4, .inl (T 0, 4, .inl (fun _ => 0))), (q5, .inl (T 0, 4, .inl (fun _ => 0))), (q6, .inl (T 0, 9, .inl (fun _ => 0))), (q7, .inl (T 0, 8, .inl (fun _ => 0)))] H := hP
  have hD : va_D A [(h0, .inr (5, [.null, .ref q1, .ref q2, .ref q3, .ref q4, .ref q5, .ref q6, .ref q7, .int 0, .int 0])), (q1, .inl (T 0, 8, .inl (fun _ => 0))), (q2, .inl (T 0, 11, .inl (fun _ => 0))), (q3, .inl (T 0, 4, .inl (fun _ => 0))), (q4, .inl (T 0, 4, .inl (fun _ => 0))), (q5, .inl (T 0, 4, .inl (fun _ => 0))), (q6, .inl (T 0, 9, .inl (fun _ => 0))), (q7, .inl (T 0, 8, .inl (fun _ => 0)))] := hD
  refine lv_aload_n hx hb dX5_init_62 rfl (lv_at hl 0 rfl) ?_
  refine lv_iconst (v := 0) hx hb dX5_init_63 (by decide) ?_
  refine va_put (ci := 5) (v := .int 0) (ty := .int) (C := "OneOfTwo$Search") (T := TX5) (N := 10) hx hb C.1.2.2.2.2 in_X5 tyX5 tyX5_ok nmX5 C.1.2.2.2.1 C.2.1 hP hD hS 0 rfl rfl 9 (by decide) (C.1.2.2.2.2 _ tw_1_229) (fun _ h => h) rfl (by decide +kernel) rfl rfl (Nat.le_of_ble_eq_true rfl) dX5_init_64 (fun H locs hP hD hS => ?_)
  have hP : va_P D vwCl [(h0, .inr (5, [.null, .ref q1, .ref q2, .ref q3, .ref q4, .ref q5, .ref q6, .ref q7, .int 0, .int 0])), (q1, .inl (T 0, 8, .inl (fun _ => 0))), (q2, .inl (T 0, 11, .inl (fun _ => 0))), (q3, .inl (T 0, 4, .inl (fun _ => 0))), (q4, .inl (T 0, 4, .inl (fun _ => 0))), (q5, .inl (T 0, 4, .inl (fun _ => 0))), (q6, .inl (T 0, 9, .inl (fun _ => 0))), (q7, .inl (T 0, 8, .inl (fun _ => 0)))] H := hP
  have hD : va_D A [(h0, .inr (5, [.null, .ref q1, .ref q2, .ref q3, .ref q4, .ref q5, .ref q6, .ref q7, .int 0, .int 0])), (q1, .inl (T 0, 8, .inl (fun _ => 0))), (q2, .inl (T 0, 11, .inl (fun _ => 0))), (q3, .inl (T 0, 4, .inl (fun _ => 0))), (q4, .inl (T 0, 4, .inl (fun _ => 0))), (q5, .inl (T 0, 4, .inl (fun _ => 0))), (q6, .inl (T 0, 9, .inl (fun _ => 0))), (q7, .inl (T 0, 8, .inl (fun _ => 0)))] := hD
  refine lv_aload_n hx hb dX5_init_67 rfl (lv_at hl 0 rfl) ?_
  refine lv_aload_n hx hb dX5_init_68 rfl (lv_at hl 1 rfl) ?_
  refine va_putF (ci := 5) (v := .ref m1) (ty := .object "OneOfTwo$House") (C := "OneOfTwo$Search") (T := TX5) (N := 10) hx hb C.1.2.2.2.2 in_X5 tyX5 tyX5_ok nmX5 C.1.2.2.2.1 C.2.1 hP hD hS 0 rfl rfl 0 (by decide) (C.1.2.2.2.2 _ tw_1_218) (fun _ h => h) rfl hin rfl (by decide +kernel) rfl rfl (Nat.le_of_ble_eq_true rfl) dX5_init_69 (fun H locs hP hD hS => ?_)
  have hP : va_P D vwCl [(h0, .inr (5, [.ref m1, .ref q1, .ref q2, .ref q3, .ref q4, .ref q5, .ref q6, .ref q7, .int 0, .int 0])), (q1, .inl (T 0, 8, .inl (fun _ => 0))), (q2, .inl (T 0, 11, .inl (fun _ => 0))), (q3, .inl (T 0, 4, .inl (fun _ => 0))), (q4, .inl (T 0, 4, .inl (fun _ => 0))), (q5, .inl (T 0, 4, .inl (fun _ => 0))), (q6, .inl (T 0, 9, .inl (fun _ => 0))), (q7, .inl (T 0, 8, .inl (fun _ => 0)))] H := hP
  have hD : va_D A [(h0, .inr (5, [.ref m1, .ref q1, .ref q2, .ref q3, .ref q4, .ref q5, .ref q6, .ref q7, .int 0, .int 0])), (q1, .inl (T 0, 8, .inl (fun _ => 0))), (q2, .inl (T 0, 11, .inl (fun _ => 0))), (q3, .inl (T 0, 4, .inl (fun _ => 0))), (q4, .inl (T 0, 4, .inl (fun _ => 0))), (q5, .inl (T 0, 4, .inl (fun _ => 0))), (q6, .inl (T 0, 9, .inl (fun _ => 0))), (q7, .inl (T 0, 8, .inl (fun _ => 0)))] := hD
  have hP := hP.sub (ws' := [(h0, .inr (5, [.ref m1, .ref q1, .ref q2, .ref q3, .ref q4, .ref q5, .ref q6, .ref q7, .int 0, .int 0])), (q1, .inl (T 0, 8, .inl (fun _ => 0))), (q2, .inl (T 0, 11, .inl (fun _ => 0))), (q3, .inl (T 0, 4, .inl (fun _ => 0))), (q4, .inl (T 0, 4, .inl (fun _ => 0))), (q5, .inl (T 0, 4, .inl (fun _ => 0))), (q6, .inl (T 0, 9, .inl (fun _ => 0))), (q7, .inl (T 0, 8, .inl (fun _ => 0)))]) [0, 1, 2, 3, 4, 5, 6, 7] rfl
  have hD := hD.sub (ws' := [(h0, .inr (5, [.ref m1, .ref q1, .ref q2, .ref q3, .ref q4, .ref q5, .ref q6, .ref q7, .int 0, .int 0])), (q1, .inl (T 0, 8, .inl (fun _ => 0))), (q2, .inl (T 0, 11, .inl (fun _ => 0))), (q3, .inl (T 0, 4, .inl (fun _ => 0))), (q4, .inl (T 0, 4, .inl (fun _ => 0))), (q5, .inl (T 0, 4, .inl (fun _ => 0))), (q6, .inl (T 0, 9, .inl (fun _ => 0))), (q7, .inl (T 0, 8, .inl (fun _ => 0)))]) [0, 1, 2, 3, 4, 5, 6, 7] (by decide) rfl
  exact W.vret hx hb hr (fun t ht hW => ⟨⟨fun k => ([q1, q2, q3, q4, q5, q6, q7] : List Nat).getD k 0, rfl, trivial, by rw [ht]; exact hP, hD⟩, hS.F ht⟩) hS.2.2 dX5_init_72 hlk
set_option maxRecDepth 100000 in
set_option maxHeartbeats 4000000 in
theorem c_X2_init_2 {l : Launch} {T : Nat → ClassId} {D : va_G} (h0 sz : Nat) (m1 : Nat) : Met l yX2_init (Cond.code yX2_init cX2_init 3 none :: TB) (RC 2 12 128) (va_Pc [.ref h0, .ref m1] (CtP T D [(h0, .inr (2, [.int 0, .int 0, .int 0, .null, .null, .null, .null, .null, .null, .null, .int 0, .int 0, .int 0, .int 0, .int 0, .int 0, .null, .null, .null])), (m1, .inr (3, [.int 0]))] sz)) (QcC D (va_A [(h0, .inr (2, [.int 0, .int 0, .int 0, .null, .null, .null, .null, .null, .null, .null, .int 0, .int 0, .int 0, .int 0, .int 0, .int 0, .null, .null, .null])), (m1, .inr (3, [.int 0]))] sz) (fun u => [(h0, .inr (2, [.int 0, .int 0, .int 0, .ref (u 0), .ref (u 1), .ref (u 2), .ref (u 3), .ref (u 4), .ref (u 5), .ref (u 6), .int 0, .int 0, .int 0, .int 0, .int 0, .int 1, .ref (u 7), .ref (u 9), .ref (u 11)])), ((u 0), .inl (T 0, 8, .inl (fun _ => 0))), ((u 1), .inl (T 0, 8, .inl (fun _ => 0))), ((u 2), .inl (T 0, 8, .inl (fun _ => 0))), ((u 3), .inl (T 0, 8, .inl (fun _ => 0))), ((u 4), .inl (T 1, 6, .inr (.inr (.inr (.inr (va_up (va_up (va_up (va_up (va_up (va_up (fun _ => none) 0 (some m1)) 1 (some m1)) 2 (some m1)) 3 (some m1)) 4 (some m1)) 5 (some m1))))))), ((u 5), .inl (T 0, 6, .inl (fun _ => 0))), ((u 6), .inl (T 0, 6, .inl (fun _ => 0))), ((u 7), .inr (4, [.ref (u 8), .int 0, .int 0])), ((u 8), .inl (T 0, 50, .inl (fun _ => 0))), ((u 9), .inr (4, [.ref (u 10), .int 0, .int 0])), ((u 10), .inl (T 0, 20, .inl (fun _ => 0))), ((u 11), .inl (T 3, 2, .inr (.inr (.inr (.inr (fun _ => none)))))), (m1, .inr (3, [.int 0]))])) 12 128 (va_A [(h0, .inr (2, [.int 0, .int 0, .int 0, .null, .null, .null, .null, .null, .null, .null, .int 0, .int 0, .int 0, .int 0, .int 0, .int 0, .null, .null, .null])), (m1, .inr (3, [.int 0]))] sz) := by
  refine st_C (by decide) (Nat.le_of_ble_eq_true rfl) (fun p e s m args below meth c ls A C hr hlk hin hO hAe hA hP hD hS hl => ?_)
  rw [← hAe]
  clear hAe
  have hl : lv_has ls 3 [(0, .ref h0), (1, .ref m1)] := hl
  have hx := C.x
  have hb := C.b
  refine lv_aload_n hx hb dX2_init_0 rfl (lv_at hl 0 rfl) ?_
  refine o_init C hl.1 tw_1_121 (Nat.le_of_ble_eq_true rfl) (Nat.le_of_ble_eq_true rfl) dX2_init_1 ?_
  refine lv_aload_n hx hb dX2_init_4 rfl (lv_at hl 0 rfl) ?_
  refine lv_iconst (v := 0) hx hb dX2_init_5 (by decide) ?_
  refine va_put (ci := 2) (v := .int 0) (ty := .int) (C := "OneOfTwo$House") (T := TX2) (N := 19) hx hb C.1.2.2.2.2 in_X2 tyX2 tyX2_ok nmX2 C.1.2.2.2.1 C.2.1 hP hD hS 0 rfl rfl 0 (by decide) (C.1.2.2.2.2 _ tw_1_127) (fun _ h => h) rfl (by decide +kernel) rfl rfl (Nat.le_of_ble_eq_true rfl) dX2_init_6 (fun H locs hP hD hS => ?_)
  have hP : va_P D vwCl [(h0, .inr (2, [.int 0, .int 0, .int 0, .null, .null, .null, .null, .null, .null, .null, .int 0, .int 0, .int 0, .int 0, .int 0, .int 0, .null, .null, .null])), (m1, .inr (3, [.int 0]))] H := hP
  have hD : va_D A [(h0, .inr (2, [.int 0, .int 0, .int 0, .null, .null, .null, .null, .null, .null, .null, .int 0, .int 0, .int 0, .int 0, .int 0, .int 0, .null, .null, .null])), (m1, .inr (3, [.int 0]))] := hD
  refine lv_aload_n hx hb dX2_init_9 rfl (lv_at hl 0 rfl) ?_
  refine lv_iconst (v := 0) hx hb dX2_init_10 (by decide) ?_
  refine va_put (ci := 2) (v := .int 0) (ty := .int) (C := "OneOfTwo$House") (T := TX2) (N := 19) hx hb C.1.2.2.2.2 in_X2 tyX2 tyX2_ok nmX2 C.1.2.2.2.1 C.2.1 hP hD hS 0 rfl rfl 1 (by decide) (C.1.2.2.2.2 _ tw_1_130) (fun _ h => h) rfl (by decide +kernel) rfl rfl (Nat.le_of_ble_eq_true rfl) dX2_init_11 (fun H locs hP hD hS => ?_)
  have hP : va_P D vwCl [(h0, .inr (2, [.int 0, .int 0, .int 0, .null, .null, .null, .null, .null, .null, .null, .int 0, .int 0, .int 0, .int 0, .int 0, .int 0, .null, .null, .null])), (m1, .inr (3, [.int 0]))] H := hP
  have hD : va_D A [(h0, .inr (2, [.int 0, .int 0, .int 0, .null, .null, .null, .null, .null, .null, .null, .int 0, .int 0, .int 0, .int 0, .int 0, .int 0, .null, .null, .null])), (m1, .inr (3, [.int 0]))] := hD
  refine lv_aload_n hx hb dX2_init_14 rfl (lv_at hl 0 rfl) ?_
  refine lv_iconst (v := 0) hx hb dX2_init_15 (by decide) ?_
  refine va_put (ci := 2) (v := .int 0) (ty := .int) (C := "OneOfTwo$House") (T := TX2) (N := 19) hx hb C.1.2.2.2.2 in_X2 tyX2 tyX2_ok nmX2 C.1.2.2.2.1 C.2.1 hP hD hS 0 rfl rfl 2 (by decide) (C.1.2.2.2.2 _ tw_1_133) (fun _ h => h) rfl (by decide +kernel) rfl rfl (Nat.le_of_ble_eq_true rfl) dX2_init_16 (fun H locs hP hD hS => ?_)
  have hP : va_P D vwCl [(h0, .inr (2, [.int 0, .int 0, .int 0, .null, .null, .null, .null, .null, .null, .null, .int 0, .int 0, .int 0, .int 0, .int 0, .int 0, .null, .null, .null])), (m1, .inr (3, [.int 0]))] H := hP
  have hD : va_D A [(h0, .inr (2, [.int 0, .int 0, .int 0, .null, .null, .null, .null, .null, .null, .null, .int 0, .int 0, .int 0, .int 0, .int 0, .int 0, .null, .null, .null])), (m1, .inr (3, [.int 0]))] := hD
  refine lv_aload_n hx hb dX2_init_19 rfl (lv_at hl 0 rfl) ?_
  refine lv_bipush (v := 8) hx hb dX2_init_20 (by decide) ?_
  refine nw_i (N := 8) C hP hD hS hA (by decide) (by decide) (Nat.le_of_ble_eq_true rfl) (Nat.le_of_ble_eq_true rfl) (Nat.le_of_ble_eq_true rfl) dX2_init_22 (fun q1 H hP hD hS => ?_)
  have hP : va_P D vwCl [(h0, .inr (2, [.int 0, .int 0, .int 0, .null, .null, .null, .null, .null, .null, .null, .int 0, .int 0, .int 0, .int 0, .int 0, .int 0, .null, .null, .null])), (m1, .inr (3, [.int 0])), (q1, .inl (T 0, 8, .inl (fun _ => 0)))] H := hP
  have hD : va_D A [(h0, .inr (2, [.int 0, .int 0, .int 0, .null, .null, .null, .null, .null, .null, .null, .int 0, .int 0, .int 0, .int 0, .int 0, .int 0, .null, .null, .null])), (m1, .inr (3, [.int 0])), (q1, .inl (T 0, 8, .inl (fun _ => 0)))] := hD
  refine W.cs (cells' := 1) (slots' := 8) rfl rfl ?_
  refine va_putF (ci := 2) (v := .ref q1) (ty := .array .int) (C := "OneOfTwo$House") (T := TX2) (N := 19) hx hb C.1.2.2.2.2 in_X2 tyX2 tyX2_ok nmX2 C.1.2.2.2.1 C.2.1 hP hD hS 0 rfl rfl 3 (by decide) (C.1.2.2.2.2 _ tw_1_136) (fun _ h => h) rfl hin rfl (by decide +kernel) rfl rfl (Nat.le_of_ble_eq_true rfl) dX2_init_24 (fun H locs hP hD hS => ?_)
  have hP : va_P D vwCl [(h0, .inr (2, [.int 0, .int 0, .int 0, .ref q1, .null, .null, .null, .null, .null, .null, .int 0, .int 0, .int 0, .int 0, .int 0, .int 0, .null, .null, .null])), (m1, .inr (3, [.int 0])), (q1, .inl (T 0, 8, .inl (fun _ => 0)))] H := hP
  have hD : va_D A [(h0, .inr (2, [.int 0, .int 0, .int 0, .ref q1, .null, .null, .null, .null, .null, .null, .int 0, .int 0, .int 0, .int 0, .int 0, .int 0, .null, .null, .null])), (m1, .inr (3, [.int 0])), (q1, .inl (T 0, 8, .inl (fun _ => 0)))] := hD
  refine lv_aload_n hx hb dX2_init_27 rfl (lv_at hl 0 rfl) ?_
  refine lv_bipush (v := 8) hx hb dX2_init_28 (by decide) ?_
  refine nw_i (N := 8) C hP hD hS hA (by decide) (by decide) (Nat.le_of_ble_eq_true rfl) (Nat.le_of_ble_eq_true rfl) (Nat.le_of_ble_eq_true rfl) dX2_init_30 (fun q2 H hP hD hS => ?_)
  have hP : va_P D vwCl [(h0, .inr (2, [.int 0, .int 0, .int 0, .ref q1, .null, .null, .null, .null, .null, .null, .int 0, .int 0, .int 0, .int 0, .int 0, .int 0, .null, .null, .null])), (m1, .inr (3, [.int 0])), (q1, .inl (T 0, 8, .inl (fun _ => 0))), (q2, .inl (T 0, 8, .inl (fun _ => 0)))] H := hP
  have hD : va_D A [(h0, .inr (2, [.int 0, .int 0, .int 0, .ref q1, .null, .null, .null, .null, .null, .null, .int 0, .int 0, .int 0, .int 0, .int 0, .int 0, .null, .null, .null])), (m1, .inr (3, [.int 0])), (q1, .inl (T 0, 8, .inl (fun _ => 0))), (q2, .inl (T 0, 8, .inl (fun _ => 0)))] := hD
  refine W.cs (cells' := 2) (slots' := 16) rfl rfl ?_
  refine va_putF (ci := 2) (v := .ref q2) (ty := .array .int) (C := "OneOfTwo$House") (T := TX2) (N := 19) hx hb C.1.2.2.2.2 in_X2 tyX2 tyX2_ok nmX2 C.1.2.2.2.1 C.2.1 hP hD hS 0 rfl rfl 4 (by decide) (C.1.2.2.2.2 _ tw_1_139) (fun _ h => h) rfl hin rfl (by decide +kernel) rfl rfl (Nat.le_of_ble_eq_true rfl) dX2_init_32 (fun H locs hP hD hS => ?_)
  have hP : va_P D vwCl [(h0, .inr (2, [.int 0, .int 0, .int 0, .ref q1, .ref q2, .null, .null, .null, .null, .null, .int 0, .int 0, .int 0, .int 0, .int 0, .int 0, .null, .null, .null])), (m1, .inr (3, [.int 0])), (q1, .inl (T 0, 8, .inl (fun _ => 0))), (q2, .inl (T 0, 8, .inl (fun _ => 0)))] H := hP
  have hD : va_D A [(h0, .inr (2, [.int 0, .int 0, .int 0, .ref q1, .ref q2, .null, .null, .null, .null, .null, .int 0, .int 0, .int 0, .int 0, .int 0, .int 0, .null, .null, .null])), (m1, .inr (3, [.int 0])), (q1, .inl (T 0, 8, .inl (fun _ => 0))), (q2, .inl (T 0, 8, .inl (fun _ => 0)))] := hD
  refine lv_aload_n hx hb dX2_init_35 rfl (lv_at hl 0 rfl) ?_
  refine lv_bipush (v := 8) hx hb dX2_init_36 (by decide) ?_
  refine nw_i (N := 8) C hP hD hS hA (by decide) (by decide) (Nat.le_of_ble_eq_true rfl) (Nat.le_of_ble_eq_true rfl) (Nat.le_of_ble_eq_true rfl) dX2_init_38 (fun q3 H hP hD hS => ?_)
  have hP : va_P D vwCl [(h0, .inr (2, [.int 0, .int 0, .int 0, .ref q1, .ref q2, .null, .null, .null, .null, .null, .int 0, .int 0, .int 0, .int 0, .int 0, .int 0, .null, .null, .null])), (m1, .inr (3, [.int 0])), (q1, .inl (T 0, 8, .inl (fun _ => 0))), (q2, .inl (T 0, 8, .inl (fun _ => 0))), (q3, .inl (T 0, 8, .inl (fun _ => 0)))] H := hP
  have hD : va_D A [(h0, .inr (2, [.int 0, .int 0, .int 0, .ref q1, .ref q2, .null, .null, .null, .null, .null, .int 0, .int 0, .int 0, .int 0, .int 0, .int 0, .null, .null, .null])), (m1, .inr (3, [.int 0])), (q1, .inl (T 0, 8, .inl (fun _ => 0))), (q2, .inl (T 0, 8, .inl (fun _ => 0))), (q3, .inl (T 0, 8, .inl (fun _ => 0)))] := hD
  refine W.cs (cells' := 3) (slots' := 24) rfl rfl ?_
  refine va_putF (ci := 2) (v := .ref q3) (ty := .array .int) (C := "OneOfTwo$House") (T := TX2) (N := 19) hx hb C.1.2.2.2.2 in_X2 tyX2 tyX2_ok nmX2 C.1.2.2.2.1 C.2.1 hP hD hS 0 rfl rfl 5 (by decide) (C.1.2.2.2.2 _ tw_1_142) (fun _ h => h) rfl hin rfl (by decide +kernel) rfl rfl (Nat.le_of_ble_eq_true rfl) dX2_init_40 (fun H locs hP hD hS => ?_)
  have hP : va_P D vwCl [(h0, .inr (2, [.int 0, .int 0, .int 0, .ref q1, .ref q2, .ref q3, .null, .null, .null, .null, .int 0, .int 0, .int 0, .int 0, .int 0, .int 0, .null, .null, .null])), (m1, .inr (3, [.int 0])), (q1, .inl (T 0, 8, .inl (fun _ => 0))), (q2, .inl (T 0, 8, .inl (fun _ => 0))), (q3, .inl (T 0, 8, .inl (fun _ => 0)))] H := hP
  have hD : va_D A [(h0, .inr (2, [.int 0, .int 0, .int 0, .ref q1, .ref q2, .ref q3, .null, .null, .null, .null, .int 0, .int 0, .int 0, .int 0, .int 0, .int 0, .null, .null, .null])), (m1, .inr (3, [.int 0])), (q1, .inl (T 0, 8, .inl (fun _ => 0))), (q2, .inl (T 0, 8, .inl (fun _ => 0))), (q3, .inl (T 0, 8, .inl (fun _ => 0)))] := hD
  refine lv_aload_n hx hb dX2_init_43 rfl (lv_at hl 0 rfl) ?_
  refine lv_bipush (v := 8) hx hb dX2_init_44 (by decide) ?_
  refine nw_i (N := 8) C hP hD hS hA (by decide) (by decide) (Nat.le_of_ble_eq_true rfl) (Nat.le_of_ble_eq_true rfl) (Nat.le_of_ble_eq_true rfl) dX2_init_46 (fun q4 H hP hD hS => ?_)
  have hP : va_P D vwCl [(h0, .inr (2, [.int 0, .int 0, .int 0, .ref q1, .ref q2, .ref q3, .null, .null, .null, .null, .int 0, .int 0, .int 0, .int 0, .int 0, .int 0, .null, .null, .null])), (m1, .inr (3, [.int 0])), (q1, .inl (T 0, 8, .inl (fun _ => 0))), (q2, .inl (T 0, 8, .inl (fun _ => 0))), (q3, .inl (T 0, 8, .inl (fun _ => 0))), (q4, .inl (T 0, 8, .inl (fun _ => 0)))] H := hP
  have hD : va_D A [(h0, .inr (2, [.int 0, .int 0, .int 0, .ref q1, .ref q2, .ref q3, .null, .null, .null, .null, .int 0, .int 0, .int 0, .int 0, .int 0, .int 0, .null, .null, .null])), (m1, .inr (3, [.int 0])), (q1, .inl (T 0, 8, .inl (fun _ => 0))), (q2, .inl (T 0, 8, .inl (fun _ => 0))), (q3, .inl (T 0, 8, .inl (fun _ => 0))), (q4, .inl (T 0, 8, .inl (fun _ => 0)))] := hD
  refine W.cs (cells' := 4) (slots' := 32) rfl rfl ?_
  refine va_putF (ci := 2) (v := .ref q4) (ty := .array .int) (C := "OneOfTwo$House") (T := TX2) (N := 19) hx hb C.1.2.2.2.2 in_X2 tyX2 tyX2_ok nmX2 C.1.2.2.2.1 C.2.1 hP hD hS 0 rfl rfl 6 (by decide) (C.1.2.2.2.2 _ tw_1_145) (fun _ h => h) rfl hin rfl (by decide +kernel) rfl rfl (Nat.le_of_ble_eq_true rfl) dX2_init_48 (fun H locs hP hD hS => ?_)
  have hP : va_P D vwCl [(h0, .inr (2, [.int 0, .int 0, .int 0, .ref q1, .ref q2, .ref q3, .ref q4, .null, .null, .null, .int 0, .int 0, .int 0, .int 0, .int 0, .int 0, .null, .null, .null])), (m1, .inr (3, [.int 0])), (q1, .inl (T 0, 8, .inl (fun _ => 0))), (q2, .inl (T 0, 8, .inl (fun _ => 0))), (q3, .inl (T 0, 8, .inl (fun _ => 0))), (q4, .inl (T 0, 8, .inl (fun _ => 0)))] H := hP
  have hD : va_D A [(h0, .inr (2, [.int 0, .int 0, .int 0, .ref q1, .ref q2, .ref q3, .ref q4, .null, .null, .null, .int 0, .int 0, .int 0, .int 0, .int 0, .int 0, .null, .null, .null])), (m1, .inr (3, [.int 0])), (q1, .inl (T 0, 8, .inl (fun _ => 0))), (q2, .inl (T 0, 8, .inl (fun _ => 0))), (q3, .inl (T 0, 8, .inl (fun _ => 0))), (q4, .inl (T 0, 8, .inl (fun _ => 0)))] := hD
  refine lv_aload_n hx hb dX2_init_51 rfl (lv_at hl 0 rfl) ?_
  refine lv_bipush (v := 6) hx hb dX2_init_52 (by decide) ?_
  refine nw_q (N := 6) (t := 1) rfl hO.1 C tw_1_122 hP hD hS hA (by decide) (by decide) (Nat.le_of_ble_eq_true rfl) (Nat.le_of_ble_eq_true rfl) (Nat.le_of_ble_eq_true rfl) dX2_init_54 (fun q5 H hP hD hS => ?_)
  have hP : va_P D vwCl [(h0, .inr (2, [.int 0, .int 0, .int 0, .ref q1, .ref q2, .ref q3, .ref q4, .null, .null, .null, .int 0, .int 0, .int 0, .int 0, .int 0, .int 0, .null, .null, .null])), (m1, .inr (3, [.int 0])), (q1, .inl (T 0, 8, .inl (fun _ => 0))), (q2, .inl (T 0, 8, .inl (fun _ => 0))), (q3, .inl (T 0, 8, .inl (fun _ => 0))), (q4, .inl (T 0, 8, .inl (fun _ => 0))), (q5, .inl (T 1, 6, .inr (.inr (.inr (.inr (fun _ => none))))))] H := hP
  have hD : va_D A [(h0, .inr (2, [.int 0, .int 0, .int 0, .ref q1, .ref q2, .ref q3, .ref q4, .null, .null, .null, .int 0, .int 0, .int 0, .int 0, .int 0, .int 0, .null, .null, .null])), (m1, .inr (3, [.int 0])), (q1, .inl (T 0, 8, .inl (fun _ => 0))), (q2, .inl (T 0, 8, .inl (fun _ => 0))), (q3, .inl (T 0, 8, .inl (fun _ => 0))), (q4, .inl (T 0, 8, .inl (fun _ => 0))), (q5, .inl (T 1, 6, .inr (.inr (.inr (.inr (fun _ => none))))))] := hD
  refine W.cs (cells' := 5) (slots' := 38) rfl rfl ?_
  refine va_putF (ci := 2) (v := .ref q5) (ty := .array (.object "OneOfTwo$Lodger")) (C := "OneOfTwo$House") (T := TX2) (N := 19) hx hb C.1.2.2.2.2 in_X2 tyX2 tyX2_ok nmX2 C.1.2.2.2.1 C.2.1 hP hD hS 0 rfl rfl 7 (by decide) (C.1.2.2.2.2 _ tw_1_148) (fun _ h => h) rfl hin rfl (by decide +kernel) rfl rfl (Nat.le_of_ble_eq_true rfl) dX2_init_57 (fun H locs hP hD hS => ?_)
  have hP : va_P D vwCl [(h0, .inr (2, [.int 0, .int 0, .int 0, .ref q1, .ref q2, .ref q3, .ref q4, .ref q5, .null, .null, .int 0, .int 0, .int 0, .int 0, .int 0, .int 0, .null, .null, .null])), (m1, .inr (3, [.int 0])), (q1, .inl (T 0, 8, .inl (fun _ => 0))), (q2, .inl (T 0, 8, .inl (fun _ => 0))), (q3, .inl (T 0, 8, .inl (fun _ => 0))), (q4, .inl (T 0, 8, .inl (fun _ => 0))), (q5, .inl (T 1, 6, .inr (.inr (.inr (.inr (fun _ => none))))))] H := hP
  have hD : va_D A [(h0, .inr (2, [.int 0, .int 0, .int 0, .ref q1, .ref q2, .ref q3, .ref q4, .ref q5, .null, .null, .int 0, .int 0, .int 0, .int 0, .int 0, .int 0, .null, .null, .null])), (m1, .inr (3, [.int 0])), (q1, .inl (T 0, 8, .inl (fun _ => 0))), (q2, .inl (T 0, 8, .inl (fun _ => 0))), (q3, .inl (T 0, 8, .inl (fun _ => 0))), (q4, .inl (T 0, 8, .inl (fun _ => 0))), (q5, .inl (T 1, 6, .inr (.inr (.inr (.inr (fun _ => none))))))] := hD
  refine lv_aload_n hx hb dX2_init_60 rfl (lv_at hl 0 rfl) ?_
  refine lv_bipush (v := 6) hx hb dX2_init_61 (by decide) ?_
  refine nw_i (N := 6) C hP hD hS hA (by decide) (by decide) (Nat.le_of_ble_eq_true rfl) (Nat.le_of_ble_eq_true rfl) (Nat.le_of_ble_eq_true rfl) dX2_init_63 (fun q6 H hP hD hS => ?_)
  have hP : va_P D vwCl [(h0, .inr (2, [.int 0, .int 0, .int 0, .ref q1, .ref q2, .ref q3, .ref q4, .ref q5, .null, .null, .int 0, .int 0, .int 0, .int 0, .int 0, .int 0, .null, .null, .null])), (m1, .inr (3, [.int 0])), (q1, .inl (T 0, 8, .inl (fun _ => 0))), (q2, .inl (T 0, 8, .inl (fun _ => 0))), (q3, .inl (T 0, 8, .inl (fun _ => 0))), (q4, .inl (T 0, 8, .inl (fun _ => 0))), (q5, .inl (T 1, 6, .inr (.inr (.inr (.inr (fun _ => none)))))), (q6, .inl (T 0, 6, .inl (fun _ => 0)))] H := hP
  have hD : va_D A [(h0, .inr (2, [.int 0, .int 0, .int 0, .ref q1, .ref q2, .ref q3, .ref q4, .ref q5, .null, .null, .int 0, .int 0, .int 0, .int 0, .int 0, .int 0, .null, .null, .null])), (m1, .inr (3, [.int 0])), (q1, .inl (T 0, 8, .inl (fun _ => 0))), (q2, .inl (T 0, 8, .inl (fun _ => 0))), (q3, .inl (T 0, 8, .inl (fun _ => 0))), (q4, .inl (T 0, 8, .inl (fun _ => 0))), (q5, .inl (T 1, 6, .inr (.inr (.inr (.inr (fun _ => none)))))), (q6, .inl (T 0, 6, .inl (fun _ => 0)))] := hD
  refine W.cs (cells' := 6) (slots' := 44) rfl rfl ?_
  refine va_putF (ci := 2) (v := .ref q6) (ty := .array .int) (C := "OneOfTwo$House") (T := TX2) (N := 19) hx hb C.1.2.2.2.2 in_X2 tyX2 tyX2_ok nmX2 C.1.2.2.2.1 C.2.1 hP hD hS 0 rfl rfl 8 (by decide) (C.1.2.2.2.2 _ tw_1_150) (fun _ h => h) rfl hin rfl (by decide +kernel) rfl rfl (Nat.le_of_ble_eq_true rfl) dX2_init_65 (fun H locs hP hD hS => ?_)
  have hP : va_P D vwCl [(h0, .inr (2, [.int 0, .int 0, .int 0, .ref q1, .ref q2, .ref q3, .ref q4, .ref q5, .ref q6, .null, .int 0, .int 0, .int 0, .int 0, .int 0, .int 0, .null, .null, .null])), (m1, .inr (3, [.int 0])), (q1, .inl (T 0, 8, .inl (fun _ => 0))), (q2, .inl (T 0, 8, .inl (fun _ => 0))), (q3, .inl (T 0, 8, .inl (fun _ => 0))), (q4, .inl (T 0, 8, .inl (fun _ => 0))), (q5, .inl (T 1, 6, .inr (.inr (.inr (.inr (fun _ => none)))))), (q6, .inl (T 0, 6, .inl (fun _ => 0)))] H := hP
  have hD : va_D A [(h0, .inr (2, [.int 0, .int 0, .int 0, .ref q1, .ref q2, .ref q3, .ref q4, .ref q5, .ref q6, .null, .int 0, .int 0, .int 0, .int 0, .int 0, .int 0, .null, .null, .null])), (m1, .inr (3, [.int 0])), (q1, .inl (T 0, 8, .inl (fun _ => 0))), (q2, .inl (T 0, 8, .inl (fun _ => 0))), (q3, .inl (T 0, 8, .inl (fun _ => 0))), (q4, .inl (T 0, 8, .inl (fun _ => 0))), (q5, .inl (T 1, 6, .inr (.inr (.inr (.inr (fun _ => none)))))), (q6, .inl (T 0, 6, .inl (fun _ => 0)))] := hD
  refine lv_aload_n hx hb dX2_init_68 rfl (lv_at hl 0 rfl) ?_
  refine lv_bipush (v := 6) hx hb dX2_init_69 (by decide) ?_
  refine nw_i (N := 6) C hP hD hS hA (by decide) (by decide) (Nat.le_of_ble_eq_true rfl) (Nat.le_of_ble_eq_true rfl) (Nat.le_of_ble_eq_true rfl) dX2_init_71 (fun q7 H hP hD hS => ?_)
  have hP : va_P D vwCl [(h0, .inr (2, [.int 0, .int 0, .int 0, .ref q1, .ref q2, .ref q3, .ref q4, .ref q5, .ref q6, .null, .int 0, .int 0, .int 0, .int 0, .int 0, .int 0, .null, .null, .null])), (m1, .inr (3, [.int 0])), (q1, .inl (T 0, 8, .inl (fun _ => 0))), (q2, .inl (T 0, 8, .inl (fun _ => 0))), (q3, .inl (T 0, 8, .inl (fun _ => 0))), (q4, .inl (T 0, 8, .inl (fun _ => 0))), (q5, .inl (T 1, 6, .inr (.inr (.inr (.inr (fun _ => none)))))), (q6, .inl (T 0, 6, .inl (fun _ => 0))), (q7, .inl (T 0, 6, .inl (fun _ => 0)))] H := hP
  have hD : va_D A [(h0, .inr (2, [.int 0, .int 0, .int 0, .ref q1, .ref q2, .ref q3, .ref q4, .ref q5, .ref q6, .null, .int 0, .int 0, .int 0, .int 0, .int 0, .int 0, .null, .null, .null])), (m1, .inr (3, [.int 0])), (q1, .inl (T 0, 8, .inl (fun _ => 0))), (q2, .inl (T 0, 8, .inl (fun _ => 0))), (q3, .inl (T 0, 8, .inl (fun _ => 0))), (q4, .inl (T 0, 8, .inl (fun _ => 0))), (q5, .inl (T 1, 6, .inr (.inr (.inr (.inr (fun _ => none)))))), (q6, .inl (T 0, 6, .inl (fun _ => 0))), (q7, .inl (T 0, 6, .inl (fun _ => 0)))] := hD
  refine W.cs (cells' := 7) (slots' := 50) rfl rfl ?_
  refine va_putF (ci := 2) (v := .ref q7) (ty := .array .int) (C := "OneOfTwo$House") (T := TX2) (N := 19) hx hb C.1.2.2.2.2 in_X2 tyX2 tyX2_ok nmX2 C.1.2.2.2.1 C.2.1 hP hD hS 0 rfl rfl 9 (by decide) (C.1.2.2.2.2 _ tw_1_152) (fun _ h => h) rfl hin rfl (by decide +kernel) rfl rfl (Nat.le_of_ble_eq_true rfl) dX2_init_73 (fun H locs hP hD hS => ?_)
  have hP : va_P D vwCl [(h0, .inr (2, [.int 0, .int 0, .int 0, .ref q1, .ref q2, .ref q3, .ref q4, .ref q5, .ref q6, .ref q7, .int 0, .int 0, .int 0, .int 0, .int 0, .int 0, .null, .null, .null])), (m1, .inr (3, [.int 0])), (q1, .inl (T 0, 8, .inl (fun _ => 0))), (q2, .inl (T 0, 8, .inl (fun _ => 0))), (q3, .inl (T 0, 8, .inl (fun _ => 0))), (q4, .inl (T 0, 8, .inl (fun _ => 0))), (q5, .inl (T 1, 6, .inr (.inr (.inr (.inr (fun _ => none)))))), (q6, .inl (T 0, 6, .inl (fun _ => 0))), (q7, .inl (T 0, 6, .inl (fun _ => 0)))] H := hP
  have hD : va_D A [(h0, .inr (2, [.int 0, .int 0, .int 0, .ref q1, .ref q2, .ref q3, .ref q4, .ref q5, .ref q6, .ref q7, .int 0, .int 0, .int 0, .int 0, .int 0, .int 0, .null, .null, .null])), (m1, .inr (3, [.int 0])), (q1, .inl (T 0, 8, .inl (fun _ => 0))), (q2, .inl (T 0, 8, .inl (fun _ => 0))), (q3, .inl (T 0, 8, .inl (fun _ => 0))), (q4, .inl (T 0, 8, .inl (fun _ => 0))), (q5, .inl (T 1, 6, .inr (.inr (.inr (.inr (fun _ => none)))))), (q6, .inl (T 0, 6, .inl (fun _ => 0))), (q7, .inl (T 0, 6, .inl (fun _ => 0)))] := hD
  refine lv_aload_n hx hb dX2_init_76 rfl (lv_at hl 0 rfl) ?_
  refine lv_iconst (v := 0) hx hb dX2_init_77 (by decide) ?_
  refine va_put (ci := 2) (v := .int 0) (ty := .int) (C := "OneOfTwo$House") (T := TX2) (N := 19) hx hb C.1.2.2.2.2 in_X2 tyX2 tyX2_ok nmX2 C.1.2.2.2.1 C.2.1 hP hD hS 0 rfl rfl 10 (by decide) (C.1.2.2.2.2 _ tw_1_155) (fun _ h => h) rfl (by decide +kernel) rfl rfl (Nat.le_of_ble_eq_true rfl) dX2_init_78 (fun H locs hP hD hS => ?_)
  have hP : va_P D vwCl [(h0, .inr (2, [.int 0, .int 0, .int 0, .ref q1, .ref q2, .ref q3, .ref q4, .ref q5, .ref q6, .ref q7, .int 0, .int 0, .int 0, .int 0, .int 0, .int 0, .null, .null, .null])), (m1, .inr (3, [.int 0])), (q1, .inl (T 0, 8, .inl (fun _ => 0))), (q2, .inl (T 0, 8, .inl (fun _ => 0))), (q3, .inl (T 0, 8, .inl (fun _ => 0))), (q4, .inl (T 0, 8, .inl (fun _ => 0))), (q5, .inl (T 1, 6, .inr (.inr (.inr (.inr (fun _ => none)))))), (q6, .inl (T 0, 6, .inl (fun _ => 0))), (q7, .inl (T 0, 6, .inl (fun _ => 0)))] H := hP
  have hD : va_D A [(h0, .inr (2, [.int 0, .int 0, .int 0, .ref q1, .ref q2, .ref q3, .ref q4, .ref q5, .ref q6, .ref q7, .int 0, .int 0, .int 0, .int 0, .int 0, .int 0, .null, .null, .null])), (m1, .inr (3, [.int 0])), (q1, .inl (T 0, 8, .inl (fun _ => 0))), (q2, .inl (T 0, 8, .inl (fun _ => 0))), (q3, .inl (T 0, 8, .inl (fun _ => 0))), (q4, .inl (T 0, 8, .inl (fun _ => 0))), (q5, .inl (T 1, 6, .inr (.inr (.inr (.inr (fun _ => none)))))), (q6, .inl (T 0, 6, .inl (fun _ => 0))), (q7, .inl (T 0, 6, .inl (fun _ => 0)))] := hD
  refine lv_aload_n hx hb dX2_init_81 rfl (lv_at hl 0 rfl) ?_
  refine lv_iconst (v := 0) hx hb dX2_init_82 (by decide) ?_
  refine va_put (ci := 2) (v := .int 0) (ty := .int) (C := "OneOfTwo$House") (T := TX2) (N := 19) hx hb C.1.2.2.2.2 in_X2 tyX2 tyX2_ok nmX2 C.1.2.2.2.1 C.2.1 hP hD hS 0 rfl rfl 11 (by decide) (C.1.2.2.2.2 _ tw_1_157) (fun _ h => h) rfl (by decide +kernel) rfl rfl (Nat.le_of_ble_eq_true rfl) dX2_init_83 (fun H locs hP hD hS => ?_)
  have hP : va_P D vwCl [(h0, .inr (2, [.int 0, .int 0, .int 0, .ref q1, .ref q2, .ref q3, .ref q4, .ref q5, .ref q6, .ref q7, .int 0, .int 0, .int 0, .int 0, .int 0, .int 0, .null, .null, .null])), (m1, .inr (3, [.int 0])), (q1, .inl (T 0, 8, .inl (fun _ => 0))), (q2, .inl (T 0, 8, .inl (fun _ => 0))), (q3, .inl (T 0, 8, .inl (fun _ => 0))), (q4, .inl (T 0, 8, .inl (fun _ => 0))), (q5, .inl (T 1, 6, .inr (.inr (.inr (.inr (fun _ => none)))))), (q6, .inl (T 0, 6, .inl (fun _ => 0))), (q7, .inl (T 0, 6, .inl (fun _ => 0)))] H := hP
  have hD : va_D A [(h0, .inr (2, [.int 0, .int 0, .int 0, .ref q1, .ref q2, .ref q3, .ref q4, .ref q5, .ref q6, .ref q7, .int 0, .int 0, .int 0, .int 0, .int 0, .int 0, .null, .null, .null])), (m1, .inr (3, [.int 0])), (q1, .inl (T 0, 8, .inl (fun _ => 0))), (q2, .inl (T 0, 8, .inl (fun _ => 0))), (q3, .inl (T 0, 8, .inl (fun _ => 0))), (q4, .inl (T 0, 8, .inl (fun _ => 0))), (q5, .inl (T 1, 6, .inr (.inr (.inr (.inr (fun _ => none)))))), (q6, .inl (T 0, 6, .inl (fun _ => 0))), (q7, .inl (T 0, 6, .inl (fun _ => 0)))] := hD
  refine lv_aload_n hx hb dX2_init_86 rfl (lv_at hl 0 rfl) ?_
  refine lv_iconst (v := 0) hx hb dX2_init_87 (by decide) ?_
  refine va_put (ci := 2) (v := .int 0) (ty := .int) (C := "OneOfTwo$House") (T := TX2) (N := 19) hx hb C.1.2.2.2.2 in_X2 tyX2 tyX2_ok nmX2 C.1.2.2.2.1 C.2.1 hP hD hS 0 rfl rfl 12 (by decide) (C.1.2.2.2.2 _ tw_1_159) (fun _ h => h) rfl (by decide +kernel) rfl rfl (Nat.le_of_ble_eq_true rfl) dX2_init_88 (fun H locs hP hD hS => ?_)
  have hP : va_P D vwCl [(h0, .inr (2, [.int 0, .int 0, .int 0, .ref q1, .ref q2, .ref q3, .ref q4, .ref q5, .ref q6, .ref q7, .int 0, .int 0, .int 0, .int 0, .int 0, .int 0, .null, .null, .null])), (m1, .inr (3, [.int 0])), (q1, .inl (T 0, 8, .inl (fun _ => 0))), (q2, .inl (T 0, 8, .inl (fun _ => 0))), (q3, .inl (T 0, 8, .inl (fun _ => 0))), (q4, .inl (T 0, 8, .inl (fun _ => 0))), (q5, .inl (T 1, 6, .inr (.inr (.inr (.inr (fun _ => none)))))), (q6, .inl (T 0, 6, .inl (fun _ => 0))), (q7, .inl (T 0, 6, .inl (fun _ => 0)))] H := hP
  have hD : va_D A [(h0, .inr (2, [.int 0, .int 0, .int 0, .ref q1, .ref q2, .ref q3, .ref q4, .ref q5, .ref q6, .ref q7, .int 0, .int 0, .int 0, .int 0, .int 0, .int 0, .null, .null, .null])), (m1, .inr (3, [.int 0])), (q1, .inl (T 0, 8, .inl (fun _ => 0))), (q2, .inl (T 0, 8, .inl (fun _ => 0))), (q3, .inl (T 0, 8, .inl (fun _ => 0))), (q4, .inl (T 0, 8, .inl (fun _ => 0))), (q5, .inl (T 1, 6, .inr (.inr (.inr (.inr (fun _ => none)))))), (q6, .inl (T 0, 6, .inl (fun _ => 0))), (q7, .inl (T 0, 6, .inl (fun _ => 0)))] := hD
  refine lv_aload_n hx hb dX2_init_91 rfl (lv_at hl 0 rfl) ?_
  refine lv_iconst (v := 0) hx hb dX2_init_92 (by decide) ?_
  refine va_put (ci := 2) (v := .int 0) (ty := .int) (C := "OneOfTwo$House") (T := TX2) (N := 19) hx hb C.1.2.2.2.2 in_X2 tyX2 tyX2_ok nmX2 C.1.2.2.2.1 C.2.1 hP hD hS 0 rfl rfl 13 (by decide) (C.1.2.2.2.2 _ tw_1_161) (fun _ h => h) rfl (by decide +kernel) rfl rfl (Nat.le_of_ble_eq_true rfl) dX2_init_93 (fun H locs hP hD hS => ?_)
  have hP : va_P D vwCl [(h0, .inr (2, [.int 0, .int 0, .int 0, .ref q1, .ref q2, .ref q3, .ref q4, .ref q5, .ref q6, .ref q7, .int 0, .int 0, .int 0, .int 0, .int 0, .int 0, .null, .null, .null])), (m1, .inr (3, [.int 0])), (q1, .inl (T 0, 8, .inl (fun _ => 0))), (q2, .inl (T 0, 8, .inl (fun _ => 0))), (q3, .inl (T 0, 8, .inl (fun _ => 0))), (q4, .inl (T 0, 8, .inl (fun _ => 0))), (q5, .inl (T 1, 6, .inr (.inr (.inr (.inr (fun _ => none)))))), (q6, .inl (T 0, 6, .inl (fun _ => 0))), (q7, .inl (T 0, 6, .inl (fun _ => 0)))] H := hP
  have hD : va_D A [(h0, .inr (2, [.int 0, .int 0, .int 0, .ref q1, .ref q2, .ref q3, .ref q4, .ref q5, .ref q6, .ref q7, .int 0, .int 0, .int 0, .int 0, .int 0, .int 0, .null, .null, .null])), (m1, .inr (3, [.int 0])), (q1, .inl (T 0, 8, .inl (fun _ => 0))), (q2, .inl (T 0, 8, .inl (fun _ => 0))), (q3, .inl (T 0, 8, .inl (fun _ => 0))), (q4, .inl (T 0, 8, .inl (fun _ => 0))), (q5, .inl (T 1, 6, .inr (.inr (.inr (.inr (fun _ => none)))))), (q6, .inl (T 0, 6, .inl (fun _ => 0))), (q7, .inl (T 0, 6, .inl (fun _ => 0)))] := hD
  refine lv_aload_n hx hb dX2_init_96 rfl (lv_at hl 0 rfl) ?_
  refine lv_iconst (v := 0) hx hb dX2_init_97 (by decide) ?_
  refine va_put (ci := 2) (v := .int 0) (ty := .int) (C := "OneOfTwo$House") (T := TX2) (N := 19) hx hb C.1.2.2.2.2 in_X2 tyX2 tyX2_ok nmX2 C.1.2.2.2.1 C.2.1 hP hD hS 0 rfl rfl 14 (by decide) (C.1.2.2.2.2 _ tw_1_163) (fun _ h => h) rfl (by decide +kernel) rfl rfl (Nat.le_of_ble_eq_true rfl) dX2_init_98 (fun H locs hP hD hS => ?_)
  have hP : va_P D vwCl [(h0, .inr (2, [.int 0, .int 0, .int 0, .ref q1, .ref q2, .ref q3, .ref q4, .ref q5, .ref q6, .ref q7, .int 0, .int 0, .int 0, .int 0, .int 0, .int 0, .null, .null, .null])), (m1, .inr (3, [.int 0])), (q1, .inl (T 0, 8, .inl (fun _ => 0))), (q2, .inl (T 0, 8, .inl (fun _ => 0))), (q3, .inl (T 0, 8, .inl (fun _ => 0))), (q4, .inl (T 0, 8, .inl (fun _ => 0))), (q5, .inl (T 1, 6, .inr (.inr (.inr (.inr (fun _ => none)))))), (q6, .inl (T 0, 6, .inl (fun _ => 0))), (q7, .inl (T 0, 6, .inl (fun _ => 0)))] H := hP
  have hD : va_D A [(h0, .inr (2, [.int 0, .int 0, .int 0, .ref q1, .ref q2, .ref q3, .ref q4, .ref q5, .ref q6, .ref q7, .int 0, .int 0, .int 0, .int 0, .int 0, .int 0, .null, .null, .null])), (m1, .inr (3, [.int 0])), (q1, .inl (T 0, 8, .inl (fun _ => 0))), (q2, .inl (T 0, 8, .inl (fun _ => 0))), (q3, .inl (T 0, 8, .inl (fun _ => 0))), (q4, .inl (T 0, 8, .inl (fun _ => 0))), (q5, .inl (T 1, 6, .inr (.inr (.inr (.inr (fun _ => none)))))), (q6, .inl (T 0, 6, .inl (fun _ => 0))), (q7, .inl (T 0, 6, .inl (fun _ => 0)))] := hD
  refine lv_aload_n hx hb dX2_init_101 rfl (lv_at hl 0 rfl) ?_
  refine lv_iconst (v := 1) hx hb dX2_init_102 (by decide) ?_
  refine va_put (ci := 2) (v := .int 1) (ty := .int) (C := "OneOfTwo$House") (T := TX2) (N := 19) hx hb C.1.2.2.2.2 in_X2 tyX2 tyX2_ok nmX2 C.1.2.2.2.1 C.2.1 hP hD hS 0 rfl rfl 15 (by decide) (C.1.2.2.2.2 _ tw_1_165) (fun _ h => h) rfl (by decide +kernel) rfl rfl (Nat.le_of_ble_eq_true rfl) dX2_init_103 (fun H locs hP hD hS => ?_)
  have hP : va_P D vwCl [(h0, .inr (2, [.int 0, .int 0, .int 0, .ref q1, .ref q2, .ref q3, .ref q4, .ref q5, .ref q6, .ref q7, .int 0, .int 0, .int 0, .int 0, .int 0, .int 1, .null, .null, .null])), (m1, .inr (3, [.int 0])), (q1, .inl (T 0, 8, .inl (fun _ => 0))), (q2, .inl (T 0, 8, .inl (fun _ => 0))), (q3, .inl (T 0, 8, .inl (fun _ => 0))), (q4, .inl (T 0, 8, .inl (fun _ => 0))), (q5, .inl (T 1, 6, .inr (.inr (.inr (.inr (fun _ => none)))))), (q6, .inl (T 0, 6, .inl (fun _ => 0))), (q7, .inl (T 0, 6, .inl (fun _ => 0)))] H := hP
  have hD : va_D A [(h0, .inr (2, [.int 0, .int 0, .int 0, .ref q1, .ref q2, .ref q3, .ref q4, .ref q5, .ref q6, .ref q7, .int 0, .int 0, .int 0, .int 0, .int 0, .int 1, .null, .null, .null])), (m1, .inr (3, [.int 0])), (q1, .inl (T 0, 8, .inl (fun _ => 0))), (q2, .inl (T 0, 8, .inl (fun _ => 0))), (q3, .inl (T 0, 8, .inl (fun _ => 0))), (q4, .inl (T 0, 8, .inl (fun _ => 0))), (q5, .inl (T 1, 6, .inr (.inr (.inr (.inr (fun _ => none)))))), (q6, .inl (T 0, 6, .inl (fun _ => 0))), (q7, .inl (T 0, 6, .inl (fun _ => 0)))] := hD
  refine lv_aload_n hx hb dX2_init_106 rfl (lv_at hl 0 rfl) ?_
  refine va_new (ci := 4) (fs := [.null, .int 0, .int 0]) (C := "OneOfTwo$Row") (T := TX4) (N := 3) hx hb C.1.2.2.2.2 in_X4 tyX4 tyX4_ok C.1.2.2.2.1 (C.1.2.2.2.2 _ tw_1_123) (C.1.2.2.2.2 _ tw_1_35) (C.1.2.2.2.2 _ tw_1_2) C.2.1 hP hD hS hA rfl (fun j hj => by rcases (show j = 0 ∨ j = 1 ∨ j = 2 by omega) with rfl | rfl | rfl <;> rfl) (Nat.le_of_ble_eq_true rfl) (Nat.le_of_ble_eq_true rfl) dX2_init_107 (fun q8 H hP hD hS => ?_)
  have hP : va_P D vwCl [(h0, .inr (2, [.int 0, .int 0, .int 0, .ref q1, .ref q2, .ref q3, .ref q4, .ref q5, .ref q6, .ref q7, .int 0, .int 0, .int 0, .int 0, .int 0, .int 1, .null, .null, .null])), (m1, .inr (3, [.int 0])), (q1, .inl (T 0, 8, .inl (fun _ => 0))), (q2, .inl (T 0, 8, .inl (fun _ => 0))), (q3, .inl (T 0, 8, .inl (fun _ => 0))), (q4, .inl (T 0, 8, .inl (fun _ => 0))), (q5, .inl (T 1, 6, .inr (.inr (.inr (.inr (fun _ => none)))))), (q6, .inl (T 0, 6, .inl (fun _ => 0))), (q7, .inl (T 0, 6, .inl (fun _ => 0))), (q8, .inr (4, [.null, .int 0, .int 0]))] H := hP
  have hD : va_D A [(h0, .inr (2, [.int 0, .int 0, .int 0, .ref q1, .ref q2, .ref q3, .ref q4, .ref q5, .ref q6, .ref q7, .int 0, .int 0, .int 0, .int 0, .int 0, .int 1, .null, .null, .null])), (m1, .inr (3, [.int 0])), (q1, .inl (T 0, 8, .inl (fun _ => 0))), (q2, .inl (T 0, 8, .inl (fun _ => 0))), (q3, .inl (T 0, 8, .inl (fun _ => 0))), (q4, .inl (T 0, 8, .inl (fun _ => 0))), (q5, .inl (T 1, 6, .inr (.inr (.inr (.inr (fun _ => none)))))), (q6, .inl (T 0, 6, .inl (fun _ => 0))), (q7, .inl (T 0, 6, .inl (fun _ => 0))), (q8, .inr (4, [.null, .int 0, .int 0]))] := hD
  refine W.cs (cells' := 8) (slots' := 53) rfl rfl ?_
  refine lv_dup hx hb dX2_init_110 rfl ?_
  refine lv_bipush (v := 50) hx hb dX2_init_111 (by decide) ?_
  have hPc := hP.sub (ws' := [(q8, .inr (4, [.null, .int 0, .int 0]))]) [9] rfl
  have hDc := hD.sub (ws' := [(q8, .inr (4, [.null, .int 0, .int 0]))]) [9] (by decide) rfl
  have hFc := va_free (wc := [(q8, .inr (4, [.null, .int 0, .int 0]))]) hD hS hA [9] rfl
  refine va_callv (va_runI (As := [.int 50]) (rest := [.ref q8, .ref h0]) C.1 (c_X4_init_4_50 q8 H.size ) (cwI 1 C.1.2.2.2.2 (gdT tw_1_38) rfl rfl rfl (C.1.2.2.2.2 _ tw_1_2) (C.1.2.2.2.2 _ tw_1_124) (C.1.2.2.2.2 _ tw_1_37) rfl (by decide +kernel) ⟨(Nat.le_of_ble_eq_true rfl), (Nat.le_of_ble_eq_true rfl)⟩) ⟨blC, fun U hU hW => ⟨rfl, by rw [hU], by rw [hU]; exact hPc, C.2.warm hW, hDc.weaken (fun _ _ _ _ => trivial), hO.warm hW⟩⟩ rfl rfl hl.1 rfl (lv_room (Nat.le_of_ble_eq_true rfl)) dX2_init_113 ⟨(Nat.le_of_ble_eq_true rfl), (Nat.le_of_ble_eq_true rfl)⟩) hS (fun q _ h => hFc q h) hFc (fun u9 t H1 locs ht hvm hw hB hz1 hk1 hS => ?_)
  obtain ⟨hP1, hD1⟩ := hB
  rw [ht] at hP1
  obtain ⟨hP, hD⟩ := va_join (wr := [(h0, .inr (2, [.int 0, .int 0, .int 0, .ref q1, .ref q2, .ref q3, .ref q4, .ref q5, .ref q6, .ref q7, .int 0, .int 0, .int 0, .int 0, .int 0, .int 1, .null, .null, .null])), (m1, .inr (3, [.int 0])), (q1, .inl (T 0, 8, .inl (fun _ => 0))), (q2, .inl (T 0, 8, .inl (fun _ => 0))), (q3, .inl (T 0, 8, .inl (fun _ => 0))), (q4, .inl (T 0, 8, .inl (fun _ => 0))), (q5, .inl (T 1, 6, .inr (.inr (.inr (.inr (fun _ => none)))))), (q6, .inl (T 0, 6, .inl (fun _ => 0))), (q7, .inl (T 0, 6, .inl (fun _ => 0)))]) (w1 := [(q8, .inr (4, [.ref (u9 0), .int 0, .int 0])), ((u9 0), .inl (T 0, 50, .inl (fun _ => 0)))]) hP hD [9] [0, 1, 2, 3, 4, 5, 6, 7, 8] rfl rfl (by decide) (by decide) hk1 hFc hP1 hD1
  generalize H1 = H at hP hS ⊢
  have hP : va_P D vwCl [(h0, .inr (2, [.int 0, .int 0, .int 0, .ref q1, .ref q2, .ref q3, .ref q4, .ref q5, .ref q6, .ref q7, .int 0, .int 0, .int 0, .int 0, .int 0, .int 1, .null, .null, .null])), (m1, .inr (3, [.int 0])), (q1, .inl (T 0, 8, .inl (fun _ => 0))), (q2, .inl (T 0, 8, .inl (fun _ => 0))), (q3, .inl (T 0, 8, .inl (fun _ => 0))), (q4, .inl (T 0, 8, .inl (fun _ => 0))), (q5, .inl (T 1, 6, .inr (.inr (.inr (.inr (fun _ => none)))))), (q6, .inl (T 0, 6, .inl (fun _ => 0))), (q7, .inl (T 0, 6, .inl (fun _ => 0))), (q8, .inr (4, [.ref (u9 0), .int 0, .int 0])), ((u9 0), .inl (T 0, 50, .inl (fun _ => 0)))] H := hP
  have hD : va_D A [(h0, .inr (2, [.int 0, .int 0, .int 0, .ref q1, .ref q2, .ref q3, .ref q4, .ref q5, .ref q6, .ref q7, .int 0, .int 0, .int 0, .int 0, .int 0, .int 1, .null, .null, .null])), (m1, .inr (3, [.int 0])), (q1, .inl (T 0, 8, .inl (fun _ => 0))), (q2, .inl (T 0, 8, .inl (fun _ => 0))), (q3, .inl (T 0, 8, .inl (fun _ => 0))), (q4, .inl (T 0, 8, .inl (fun _ => 0))), (q5, .inl (T 1, 6, .inr (.inr (.inr (.inr (fun _ => none)))))), (q6, .inl (T 0, 6, .inl (fun _ => 0))), (q7, .inl (T 0, 6, .inl (fun _ => 0))), (q8, .inr (4, [.ref (u9 0), .int 0, .int 0])), ((u9 0), .inl (T 0, 50, .inl (fun _ => 0)))] := hD
  refine W.cs (cells' := 9) (slots' := 103) rfl rfl ?_
  refine va_putF (ci := 2) (v := .ref q8) (ty := .object "OneOfTwo$Row") (C := "OneOfTwo$House") (T := TX2) (N := 19) hx hb C.1.2.2.2.2 in_X2 tyX2 tyX2_ok nmX2 C.1.2.2.2.1 C.2.1 hP hD hS 0 rfl rfl 16 (by decide) (C.1.2.2.2.2 _ tw_1_167) (fun _ h => h) rfl hin rfl (by decide +kernel) rfl rfl (Nat.le_of_ble_eq_true rfl) dX2_init_116 (fun H locs hP hD hS => ?_)
  have hP : va_P D vwCl [(h0, .inr (2, [.int 0, .int 0, .int 0, .ref q1, .ref q2, .ref q3, .ref q4, .ref q5, .ref q6, .ref q7, .int 0, .int 0, .int 0, .int 0, .int 0, .int 1, .ref q8, .null, .null])), (m1, .inr (3, [.int 0])), (q1, .inl (T 0, 8, .inl (fun _ => 0))), (q2, .inl (T 0, 8, .inl (fun _ => 0))), (q3, .inl (T 0, 8, .inl (fun _ => 0))), (q4, .inl (T 0, 8, .inl (fun _ => 0))), (q5, .inl (T 1, 6, .inr (.inr (.inr (.inr (fun _ => none)))))), (q6, .inl (T 0, 6, .inl (fun _ => 0))), (q7, .inl (T 0, 6, .inl (fun _ => 0))), (q8, .inr (4, [.ref (u9 0), .int 0, .int 0])), ((u9 0), .inl (T 0, 50, .inl (fun _ => 0)))] H := hP
  have hD : va_D A [(h0, .inr (2, [.int 0, .int 0, .int 0, .ref q1, .ref q2, .ref q3, .ref q4, .ref q5, .ref q6, .ref q7, .int 0, .int 0, .int 0, .int 0, .int 0, .int 1, .ref q8, .null, .null])), (m1, .inr (3, [.int 0])), (q1, .inl (T 0, 8, .inl (fun _ => 0))), (q2, .inl (T 0, 8, .inl (fun _ => 0))), (q3, .inl (T 0, 8, .inl (fun _ => 0))), (q4, .inl (T 0, 8, .inl (fun _ => 0))), (q5, .inl (T 1, 6, .inr (.inr (.inr (.inr (fun _ => none)))))), (q6, .inl (T 0, 6, .inl (fun _ => 0))), (q7, .inl (T 0, 6, .inl (fun _ => 0))), (q8, .inr (4, [.ref (u9 0), .int 0, .int 0])), ((u9 0), .inl (T 0, 50, .inl (fun _ => 0)))] := hD
  refine lv_aload_n hx hb dX2_init_119 rfl (lv_at hl 0 rfl) ?_
  refine va_new (ci := 4) (fs := [.null, .int 0, .int 0]) (C := "OneOfTwo$Row") (T := TX4) (N := 3) hx hb C.1.2.2.2.2 in_X4 tyX4 tyX4_ok C.1.2.2.2.1 (C.1.2.2.2.2 _ tw_1_123) (C.1.2.2.2.2 _ tw_1_35) (C.1.2.2.2.2 _ tw_1_2) C.2.1 hP hD hS hA rfl (fun j hj => by rcases (show j = 0 ∨ j = 1 ∨ j = 2 by omega) with rfl | rfl | rfl <;> rfl) (Nat.le_of_ble_eq_true rfl) (Nat.le_of_ble_eq_true rfl) dX2_init_120 (fun q10 H hP hD hS => ?_)
  have hP : va_P D vwCl [(h0, .inr (2, [.int 0, .int 0, .int 0, .ref q1, .ref q2, .ref q3, .ref q4, .ref q5, .ref q6, .ref q7, .int 0, .int 0, .int 0, .int 0, .int 0, .int 1, .ref q8, .null, .null])), (m1, .inr (3, [.int 0])), (q1, .inl (T 0, 8, .inl (fun _ => 0))), (q2, .inl (T 0, 8, .inl (fun _ => 0))), (q3, .inl (T 0, 8, .inl (fun _ => 0))), (q4, .inl (T 0, 8, .inl (fun _ => 0))), (q5, .inl (T 1, 6, .inr (.inr (.inr (.inr (fun _ => none)))))), (q6, .inl (T 0, 6, .inl (fun _ => 0))), (q7, .inl (T 0, 6, .inl (fun _ => 0))), (q8, .inr (4, [.ref (u9 0), .int 0, .int 0])), ((u9 0), .inl (T 0, 50, .inl (fun _ => 0))), (q10, .inr (4, [.null, .int 0, .int 0]))] H := hP
  have hD : va_D A [(h0, .inr (2, [.int 0, .int 0, .int 0, .ref q1, .ref q2, .ref q3, .ref q4, .ref q5, .ref q6, .ref q7, .int 0, .int 0, .int 0, .int 0, .int 0, .int 1, .ref q8, .null, .null])), (m1, .inr (3, [.int 0])), (q1, .inl (T 0, 8, .inl (fun _ => 0))), (q2, .inl (T 0, 8, .inl (fun _ => 0))), (q3, .inl (T 0, 8, .inl (fun _ => 0))), (q4, .inl (T 0, 8, .inl (fun _ => 0))), (q5, .inl (T 1, 6, .inr (.inr (.inr (.inr (fun _ => none)))))), (q6, .inl (T 0, 6, .inl (fun _ => 0))), (q7, .inl (T 0, 6, .inl (fun _ => 0))), (q8, .inr (4, [.ref (u9 0), .int 0, .int 0])), ((u9 0), .inl (T 0, 50, .inl (fun _ => 0))), (q10, .inr (4, [.null, .int 0, .int 0]))] := hD
  refine W.cs (cells' := 10) (slots' := 106) rfl rfl ?_
  refine lv_dup hx hb dX2_init_123 rfl ?_
  refine lv_bipush (v := 20) hx hb dX2_init_124 (by decide) ?_
  have hPc := hP.sub (ws' := [(q10, .inr (4, [.null, .int 0, .int 0]))]) [11] rfl
  have hDc := hD.sub (ws' := [(q10, .inr (4, [.null, .int 0, .int 0]))]) [11] (by decide) rfl
  have hFc := va_free (wc := [(q10, .inr (4, [.null, .int 0, .int 0]))]) hD hS hA [11] rfl
  refine va_callv (va_runI (As := [.int 20]) (rest := [.ref q10, .ref h0]) C.1 (c_X4_init_4_20 q10 H.size ) (cwI 1 C.1.2.2.2.2 (gdT tw_1_38) rfl rfl rfl (C.1.2.2.2.2 _ tw_1_2) (C.1.2.2.2.2 _ tw_1_124) (C.1.2.2.2.2 _ tw_1_37) rfl (by decide +kernel) ⟨(Nat.le_of_ble_eq_true rfl), (Nat.le_of_ble_eq_true rfl)⟩) ⟨blC, fun U hU hW => ⟨rfl, by rw [hU], by rw [hU]; exact hPc, C.2.warm hW, hDc.weaken (fun _ _ _ _ => trivial), hO.warm hW⟩⟩ rfl rfl hl.1 rfl (lv_room (Nat.le_of_ble_eq_true rfl)) dX2_init_126 ⟨(Nat.le_of_ble_eq_true rfl), (Nat.le_of_ble_eq_true rfl)⟩) hS (fun q _ h => hFc q h) hFc (fun u11 t H1 locs ht hvm hw hB hz1 hk1 hS => ?_)
  obtain ⟨hP1, hD1⟩ := hB
  rw [ht] at hP1
  obtain ⟨hP, hD⟩ := va_join (wr := [(h0, .inr (2, [.int 0, .int 0, .int 0, .ref q1, .ref q2, .ref q3, .ref q4, .ref q5, .ref q6, .ref q7, .int 0, .int 0, .int 0, .int 0, .int 0, .int 1, .ref q8, .null, .null])), (m1, .inr (3, [.int 0])), (q1, .inl (T 0, 8, .inl (fun _ => 0))), (q2, .inl (T 0, 8, .inl (fun _ => 0))), (q3, .inl (T 0, 8, .inl (fun _ => 0))), (q4, .inl (T 0, 8, .inl (fun _ => 0))), (q5, .inl (T 1, 6, .inr (.inr (.inr (.inr (fun _ => none)))))), (q6, .inl (T 0, 6, .inl (fun _ => 0))), (q7, .inl (T 0, 6, .inl (fun _ => 0))), (q8, .inr (4, [.ref (u9 0), .int 0, .int 0])), ((u9 0), .inl (T 0, 50, .inl (fun _ => 0)))]) (w1 := [(q10, .inr (4, [.ref (u11 0), .int 0, .int 0])), ((u11 0), .inl (T 0, 20, .inl (fun _ => 0)))]) hP hD [11] [0, 1, 2, 3, 4, 5, 6, 7, 8, 9, 10] rfl rfl (by decide) (by decide) hk1 hFc hP1 hD1
  generalize H1 = H at hP hS ⊢
  have hP : va_P D vwCl [(h0, .inr (2, [.int 0, .int 0, .int 0, .ref q1, .ref q2, .ref q3, .ref q4, .ref q5, .ref q6, .ref q7, .int 0, .int 0, .int 0, .int 0, .int 0, .int 1, .ref q8, .null, .null])), (m1, .inr (3, [.int 0])), (q1, .inl (T 0, 8, .inl (fun _ => 0))), (q2, .inl (T 0, 8, .inl (fun _ => 0))), (q3, .inl (T 0, 8, .inl (fun _ => 0))), (q4, .inl (T 0, 8, .inl (fun _ => 0))), (q5, .inl (T 1, 6, .inr (.inr (.inr (.inr (fun _ => none)))))), (q6, .inl (T 0, 6, .inl (fun _ => 0))), (q7, .inl (T 0, 6, .inl (fun _ => 0))), (q8, .inr (4, [.ref (u9 0), .int 0, .int 0])), ((u9 0), .inl (T 0, 50, .inl (fun _ => 0))), (q10, .inr (4, [.ref (u11 0), .int 0, .int 0])), ((u11 0), .inl (T 0, 20, .inl (fun _ => 0)))] H := hP
  have hD : va_D A [(h0, .inr (2, [.int 0, .int 0, .int 0, .ref q1, .ref q2, .ref q3, .ref q4, .ref q5, .ref q6, .ref q7, .int 0, .int 0, .int 0, .int 0, .int 0, .int 1, .ref q8, .null, .null])), (m1, .inr (3, [.int 0])), (q1, .inl (T 0, 8, .inl (fun _ => 0))), (q2, .inl (T 0, 8, .inl (fun _ => 0))), (q3, .inl (T 0, 8, .inl (fun _ => 0))), (q4, .inl (T 0, 8, .inl (fun _ => 0))), (q5, .inl (T 1, 6, .inr (.inr (.inr (.inr (fun _ => none)))))), (q6, .inl (T 0, 6, .inl (fun _ => 0))), (q7, .inl (T 0, 6, .inl (fun _ => 0))), (q8, .inr (4, [.ref (u9 0), .int 0, .int 0])), ((u9 0), .inl (T 0, 50, .inl (fun _ => 0))), (q10, .inr (4, [.ref (u11 0), .int 0, .int 0])), ((u11 0), .inl (T 0, 20, .inl (fun _ => 0)))] := hD
  refine W.cs (cells' := 11) (slots' := 126) rfl rfl ?_
  refine va_putF (ci := 2) (v := .ref q10) (ty := .object "OneOfTwo$Row") (C := "OneOfTwo$House") (T := TX2) (N := 19) hx hb C.1.2.2.2.2 in_X2 tyX2 tyX2_ok nmX2 C.1.2.2.2.1 C.2.1 hP hD hS 0 rfl rfl 17 (by decide) (C.1.2.2.2.2 _ tw_1_169) (fun _ h => h) rfl hin rfl (by decide +kernel) rfl rfl (Nat.le_of_ble_eq_true rfl) dX2_init_129 (fun H locs hP hD hS => ?_)
  have hP : va_P D vwCl [(h0, .inr (2, [.int 0, .int 0, .int 0, .ref q1, .ref q2, .ref q3, .ref q4, .ref q5, .ref q6, .ref q7, .int 0, .int 0, .int 0, .int 0, .int 0, .int 1, .ref q8, .ref q10, .null])), (m1, .inr (3, [.int 0])), (q1, .inl (T 0, 8, .inl (fun _ => 0))), (q2, .inl (T 0, 8, .inl (fun _ => 0))), (q3, .inl (T 0, 8, .inl (fun _ => 0))), (q4, .inl (T 0, 8, .inl (fun _ => 0))), (q5, .inl (T 1, 6, .inr (.inr (.inr (.inr (fun _ => none)))))), (q6, .inl (T 0, 6, .inl (fun _ => 0))), (q7, .inl (T 0, 6, .inl (fun _ => 0))), (q8, .inr (4, [.ref (u9 0), .int 0, .int 0])), ((u9 0), .inl (T 0, 50, .inl (fun _ => 0))), (q10, .inr (4, [.ref (u11 0), .int 0, .int 0])), ((u11 0), .inl (T 0, 20, .inl (fun _ => 0)))] H := hP
  have hD : va_D A [(h0, .inr (2, [.int 0, .int 0, .int 0, .ref q1, .ref q2, .ref q3, .ref q4, .ref q5, .ref q6, .ref q7, .int 0, .int 0, .int 0, .int 0, .int 0, .int 1, .ref q8, .ref q10, .null])), (m1, .inr (3, [.int 0])), (q1, .inl (T 0, 8, .inl (fun _ => 0))), (q2, .inl (T 0, 8, .inl (fun _ => 0))), (q3, .inl (T 0, 8, .inl (fun _ => 0))), (q4, .inl (T 0, 8, .inl (fun _ => 0))), (q5, .inl (T 1, 6, .inr (.inr (.inr (.inr (fun _ => none)))))), (q6, .inl (T 0, 6, .inl (fun _ => 0))), (q7, .inl (T 0, 6, .inl (fun _ => 0))), (q8, .inr (4, [.ref (u9 0), .int 0, .int 0])), ((u9 0), .inl (T 0, 50, .inl (fun _ => 0))), (q10, .inr (4, [.ref (u11 0), .int 0, .int 0])), ((u11 0), .inl (T 0, 20, .inl (fun _ => 0)))] := hD
  refine lv_aload_n hx hb dX2_init_132 rfl (lv_at hl 0 rfl) ?_
  refine lv_iconst (v := 2) hx hb dX2_init_133 (by decide) ?_
  refine nw_q (N := 2) (t := 3) rfl hO.2.2 C tw_1_125 hP hD hS hA (by decide) (by decide) (Nat.le_of_ble_eq_true rfl) (Nat.le_of_ble_eq_true rfl) (Nat.le_of_ble_eq_true rfl) dX2_init_134 (fun q12 H hP hD hS => ?_)
  have hP : va_P D vwCl [(h0, .inr (2, [.int 0, .int 0, .int 0, .ref q1, .ref q2, .ref q3, .ref q4, .ref q5, .ref q6, .ref q7, .int 0, .int 0, .int 0, .int 0, .int 0, .int 1, .ref q8, .ref q10, .null])), (m1, .inr (3, [.int 0])), (q1, .inl (T 0, 8, .inl (fun _ => 0))), (q2, .inl (T 0, 8, .inl (fun _ => 0))), (q3, .inl (T 0, 8, .inl (fun _ => 0))), (q4, .inl (T 0, 8, .inl (fun _ => 0))), (q5, .inl (T 1, 6, .inr (.inr (.inr (.inr (fun _ => none)))))), (q6, .inl (T 0, 6, .inl (fun _ => 0))), (q7, .inl (T 0, 6, .inl (fun _ => 0))), (q8, .inr (4, [.ref (u9 0), .int 0, .int 0])), ((u9 0), .inl (T 0, 50, .inl (fun _ => 0))), (q10, .inr (4, [.ref (u11 0), .int 0, .int 0])), ((u11 0), .inl (T 0, 20, .inl (fun _ => 0))), (q12, .inl (T 3, 2, .inr (.inr (.inr (.inr (fun _ => none))))))] H := hP
  have hD : va_D A [(h0, .inr (2, [.int 0, .int 0, .int 0, .ref q1, .ref q2, .ref q3, .ref q4, .ref q5, .ref q6, .ref q7, .int 0, .int 0, .int 0, .int 0, .int 0, .int 1, .ref q8, .ref q10, .null])), (m1, .inr (3, [.int 0])), (q1, .inl (T 0, 8, .inl (fun _ => 0))), (q2, .inl (T 0, 8, .inl (fun _ => 0))), (q3, .inl (T 0, 8, .inl (fun _ => 0))), (q4, .inl (T 0, 8, .inl (fun _ => 0))), (q5, .inl (T 1, 6, .inr (.inr (.inr (.inr (fun _ => none)))))), (q6, .inl (T 0, 6, .inl (fun _ => 0))), (q7, .inl (T 0, 6, .inl (fun _ => 0))), (q8, .inr (4, [.ref (u9 0), .int 0, .int 0])), ((u9 0), .inl (T 0, 50, .inl (fun _ => 0))), (q10, .inr (4, [.ref (u11 0), .int 0, .int 0])), ((u11 0), .inl (T 0, 20, .inl (fun _ => 0))), (q12, .inl (T 3, 2, .inr (.inr (.inr (.inr (fun _ => none))))))] := hD
  refine W.cs (cells' := 12) (slots' := 128) rfl rfl ?_
  refine va_putF (ci := 2) (v := .ref q12) (ty := .array (.object "OneOfTwo$Text")) (C := "OneOfTwo$House") (T := TX2) (N := 19) hx hb C.1.2.2.2.2 in_X2 tyX2 tyX2_ok nmX2 C.1.2.2.2.1 C.2.1 hP hD hS 0 rfl rfl 18 (by decide) (C.1.2.2.2.2 _ tw_1_171) (fun _ h => h) rfl hin rfl (by decide +kernel) rfl rfl (Nat.le_of_ble_eq_true rfl) dX2_init_137 (fun H locs hP hD hS => ?_)
  have hP : va_P D vwCl [(h0, .inr (2, [.int 0, .int 0, .int 0, .ref q1, .ref q2, .ref q3, .ref q4, .ref q5, .ref q6, .ref q7, .int 0, .int 0, .int 0, .int 0, .int 0, .int 1, .ref q8, .ref q10, .ref q12])), (m1, .inr (3, [.int 0])), (q1, .inl (T 0, 8, .inl (fun _ => 0))), (q2, .inl (T 0, 8, .inl (fun _ => 0))), (q3, .inl (T 0, 8, .inl (fun _ => 0))), (q4, .inl (T 0, 8, .inl (fun _ => 0))), (q5, .inl (T 1, 6, .inr (.inr (.inr (.inr (fun _ => none)))))), (q6, .inl (T 0, 6, .inl (fun _ => 0))), (q7, .inl (T 0, 6, .inl (fun _ => 0))), (q8, .inr (4, [.ref (u9 0), .int 0, .int 0])), ((u9 0), .inl (T 0, 50, .inl (fun _ => 0))), (q10, .inr (4, [.ref (u11 0), .int 0, .int 0])), ((u11 0), .inl (T 0, 20, .inl (fun _ => 0))), (q12, .inl (T 3, 2, .inr (.inr (.inr (.inr (fun _ => none))))))] H := hP
  have hD : va_D A [(h0, .inr (2, [.int 0, .int 0, .int 0, .ref q1, .ref q2, .ref q3, .ref q4, .ref q5, .ref q6, .ref q7, .int 0, .int 0, .int 0, .int 0, .int 0, .int 1, .ref q8, .ref q10, .ref q12])), (m1, .inr (3, [.int 0])), (q1, .inl (T 0, 8, .inl (fun _ => 0))), (q2, .inl (T 0, 8, .inl (fun _ => 0))), (q3, .inl (T 0, 8, .inl (fun _ => 0))), (q4, .inl (T 0, 8, .inl (fun _ => 0))), (q5, .inl (T 1, 6, .inr (.inr (.inr (.inr (fun _ => none)))))), (q6, .inl (T 0, 6, .inl (fun _ => 0))), (q7, .inl (T 0, 6, .inl (fun _ => 0))), (q8, .inr (4, [.ref (u9 0), .int 0, .int 0])), ((u9 0), .inl (T 0, 50, .inl (fun _ => 0))), (q10, .inr (4, [.ref (u11 0), .int 0, .int 0])), ((u11 0), .inl (T 0, 20, .inl (fun _ => 0))), (q12, .inl (T 3, 2, .inr (.inr (.inr (.inr (fun _ => none))))))] := hD
  refine lv_iconst (v := 0) hx hb dX2_init_140 (by decide) ?_
  refine lv_istore_n (lv' := [(2, .int 0), (0, .ref h0), (1, .ref m1)]) hx hb dX2_init_141 rfl hl (by decide) rfl (fun ls hl => ?_)
  refine lv_iload_n hx hb dX2_init_142 rfl (lv_at hl 0 rfl) ?_
  refine lv_bipush (v := 6) hx hb dX2_init_143 (by decide) ?_
  refine lv_icmp_ge (tgt := 161) hx hb dX2_init_145 (by decide) (fun q => absurd q (by decide)) (fun _ => ?_)
  refine lv_aload_n hx hb dX2_init_148 rfl (lv_at hl 1 rfl) ?_
  refine va_get (C := "OneOfTwo$House") (T := TX2) (N := 19) hx hb C.1.2.2.2.2 in_X2 C.1.2.2.2.1 C.2.1 hP 0 rfl rfl 7 (by decide) (C.1.2.2.2.2 _ tw_1_148) (fun _ h => h) rfl dX2_init_149 ?_
  refine lv_iload_n hx hb dX2_init_152 rfl (lv_at hl 0 rfl) ?_
  refine lv_aload_n hx hb dX2_init_153 rfl (lv_at hl 2 rfl) ?_
  refine va_astq hx hb C.2.1 hP hD hS 6 1 1 3 (r := (RX3, TX3, 1)) rfl rfl rfl rfl (vin rfl) dX2_init_154 (fun H locs hP hD hS => ?_)
  have hP : va_P D vwCl [(h0, .inr (2, [.int 0, .int 0, .int 0, .ref q1, .ref q2, .ref q3, .ref q4, .ref q5, .ref q6, .ref q7, .int 0, .int 0, .int 0, .int 0, .int 0, .int 1, .ref q8, .ref q10, .ref q12])), (m1, .inr (3, [.int 0])), (q1, .inl (T 0, 8, .inl (fun _ => 0))), (q2, .inl (T 0, 8, .inl (fun _ => 0))), (q3, .inl (T 0, 8, .inl (fun _ => 0))), (q4, .inl (T 0, 8, .inl (fun _ => 0))), (q5, .inl (T 1, 6, .inr (.inr (.inr (.inr (va_up (fun _ => none) 0 (some m1))))))), (q6, .inl (T 0, 6, .inl (fun _ => 0))), (q7, .inl (T 0, 6, .inl (fun _ => 0))), (q8, .inr (4, [.ref (u9 0), .int 0, .int 0])), ((u9 0), .inl (T 0, 50, .inl (fun _ => 0))), (q10, .inr (4, [.ref (u11 0), .int 0, .int 0])), ((u11 0), .inl (T 0, 20, .inl (fun _ => 0))), (q12, .inl (T 3, 2, .inr (.inr (.inr (.inr (fun _ => none))))))] H := hP
  have hD : va_D A [(h0, .inr (2, [.int 0, .int 0, .int 0, .ref q1, .ref q2, .ref q3, .ref q4, .ref q5, .ref q6, .ref q7, .int 0, .int 0, .int 0, .int 0, .int 0, .int 1, .ref q8, .ref q10, .ref q12])), (m1, .inr (3, [.int 0])), (q1, .inl (T 0, 8, .inl (fun _ => 0))), (q2, .inl (T 0, 8, .inl (fun _ => 0))), (q3, .inl (T 0, 8, .inl (fun _ => 0))), (q4, .inl (T 0, 8, .inl (fun _ => 0))), (q5, .inl (T 1, 6, .inr (.inr (.inr (.inr (va_up (fun _ => none) 0 (some m1))))))), (q6, .inl (T 0, 6, .inl (fun _ => 0))), (q7, .inl (T 0, 6, .inl (fun _ => 0))), (q8, .inr (4, [.ref (u9 0), .int 0, .int 0])), ((u9 0), .inl (T 0, 50, .inl (fun _ => 0))), (q10, .inr (4, [.ref (u11 0), .int 0, .int 0])), ((u11 0), .inl (T 0, 20, .inl (fun _ => 0))), (q12, .inl (T 3, 2, .inr (.inr (.inr (.inr (fun _ => none))))))] := hD
  refine lv_iinc (v := 1) (lv' := [(2, .int 1), (0, .ref h0), (1, .ref m1)]) hx hb dX2_init_155 hl (k := 0) rfl (by decide) (by decide) rfl (fun ls hl => ?_)
  refine lv_goto (tgt := 142) hx hb dX2_init_158 (by decide) ?_
  refine lv_iload_n hx hb dX2_init_142 rfl (lv_at hl 0 rfl) ?_
  refine lv_bipush (v := 6) hx hb dX2_init_143 (by decide) ?_
  refine lv_icmp_ge (tgt := 161) hx hb dX2_init_145 (by decide) (fun q => absurd q (by decide)) (fun _ => ?_)
  refine lv_aload_n hx hb dX2_init_148 rfl (lv_at hl 1 rfl) ?_
  refine va_get (C := "OneOfTwo$House") (T := TX2) (N := 19) hx hb C.1.2.2.2.2 in_X2 C.1.2.2.2.1 C.2.1 hP 0 rfl rfl 7 (by decide) (C.1.2.2.2.2 _ tw_1_148) (fun _ h => h) rfl dX2_init_149 ?_
  refine lv_iload_n hx hb dX2_init_152 rfl (lv_at hl 0 rfl) ?_
  refine lv_aload_n hx hb dX2_init_153 rfl (lv_at hl 2 rfl) ?_
  refine va_astq hx hb C.2.1 hP hD hS 6 1 1 3 (r := (RX3, TX3, 1)) rfl rfl rfl rfl (vin rfl) dX2_init_154 (fun H locs hP hD hS => ?_)
  have hP : va_P D vwCl [(h0, .inr (2, [.int 0, .int 0, .int 0, .ref q1, .ref q2, .ref q3, .ref q4, .ref q5, .ref q6, .ref q7, .int 0, .int 0, .int 0, .int 0, .int 0, .int 1, .ref q8, .ref q10, .ref q12])), (m1, .inr (3, [.int 0])), (q1, .inl (T 0, 8, .inl (fun _ => 0))), (q2, .inl (T 0, 8, .inl (fun _ => 0))), (q3, .inl (T 0, 8, .inl (fun _ => 0))), (q4, .inl (T 0, 8, .inl (fun _ => 0))), (q5, .inl (T 1, 6, .inr (.inr (.inr (.inr (va_up (va_up (fun _ => none) 0 (some m1)) 1 (some m1))))))), (q6, .inl (T 0, 6, .inl (fun _ => 0))), (q7, .inl (T 0, 6, .inl (fun _ => 0))), (q8, .inr (4, [.ref (u9 0), .int 0, .int 0])), ((u9 0), .inl (T 0, 50, .inl (fun _ => 0))), (q10, .inr (4, [.ref (u11 0), .int 0, .int 0])), ((u11 0), .inl (T 0, 20, .inl (fun _ => 0))), (q12, .inl (T 3, 2, .inr (.inr (.inr (.inr (fun _ => none))))))] H := hP
  have hD : va_D A [(h0, .inr (2, [.int 0, .int 0, .int 0, .ref q1, .ref q2, .ref q3, .ref q4, .ref q5, .ref q6, .ref q7, .int 0, .int 0, .int 0, .int 0, .int 0, .int 1, .ref q8, .ref q10, .ref q12])), (m1, .inr (3, [.int 0])), (q1, .inl (T 0, 8, .inl (fun _ => 0))), (q2, .inl (T 0, 8, .inl (fun _ => 0))), (q3, .inl (T 0, 8, .inl (fun _ => 0))), (q4, .inl (T 0, 8, .inl (fun _ => 0))), (q5, .inl (T 1, 6, .inr (.inr (.inr (.inr (va_up (va_up (fun _ => none) 0 (some m1)) 1 (some m1))))))), (q6, .inl (T 0, 6, .inl (fun _ => 0))), (q7, .inl (T 0, 6, .inl (fun _ => 0))), (q8, .inr (4, [.ref (u9 0), .int 0, .int 0])), ((u9 0), .inl (T 0, 50, .inl (fun _ => 0))), (q10, .inr (4, [.ref (u11 0), .int 0, .int 0])), ((u11 0), .inl (T 0, 20, .inl (fun _ => 0))), (q12, .inl (T 3, 2, .inr (.inr (.inr (.inr (fun _ => none))))))] := hD
  refine lv_iinc (v := 2) (lv' := [(2, .int 2), (0, .ref h0), (1, .ref m1)]) hx hb dX2_init_155 hl (k := 0) rfl (by decide) (by decide) rfl (fun ls hl => ?_)
  refine lv_goto (tgt := 142) hx hb dX2_init_158 (by decide) ?_
  refine lv_iload_n hx hb dX2_init_142 rfl (lv_at hl 0 rfl) ?_
  refine lv_bipush (v := 6) hx hb dX2_init_143 (by decide) ?_
  refine lv_icmp_ge (tgt := 161) hx hb dX2_init_145 (by decide) (fun q => absurd q (by decide)) (fun _ => ?_)
  refine lv_aload_n hx hb dX2_init_148 rfl (lv_at hl 1 rfl) ?_
  refine va_get (C := "OneOfTwo$House") (T := TX2) (N := 19) hx hb C.1.2.2.2.2 in_X2 C.1.2.2.2.1 C.2.1 hP 0 rfl rfl 7 (by decide) (C.1.2.2.2.2 _ tw_1_148) (fun _ h => h) rfl dX2_init_149 ?_
  refine lv_iload_n hx hb dX2_init_152 rfl (lv_at hl 0 rfl) ?_
  refine lv_aload_n hx hb dX2_init_153 rfl (lv_at hl 2 rfl) ?_
  refine va_astq hx hb C.2.1 hP hD hS 6 1 1 3 (r := (RX3, TX3, 1)) rfl rfl rfl rfl (vin rfl) dX2_init_154 (fun H locs hP hD hS => ?_)
  have hP : va_P D vwCl [(h0, .inr (2, [.int 0, .int 0, .int 0, .ref q1, .ref q2, .ref q3, .ref q4, .ref q5, .ref q6, .ref q7, .int 0, .int 0, .int 0, .int 0, .int 0, .int 1, .ref q8, .ref q10, .ref q12])), (m1, .inr (3, [.int 0])), (q1, .inl (T 0, 8, .inl (fun _ => 0))), (q2, .inl (T 0, 8, .inl (fun _ => 0))), (q3, .inl (T 0, 8, .inl (fun _ => 0))), (q4, .inl (T 0, 8, .inl (fun _ => 0))), (q5, .inl (T 1, 6, .inr (.inr (.inr (.inr (va_up (va_up (va_up (fun _ => none) 0 (some m1)) 1 (some m1)) 2 (some m1))))))), (q6, .inl (T 0, 6, .inl (fun _ => 0))), (q7, .inl (T 0, 6, .inl (fun _ => 0))), (q8, .inr (4, [.ref (u9 0), .int 0, .int 0])), ((u9 0), .inl (T 0, 50, .inl (fun _ => 0))), (q10, .inr (4, [.ref (u11 0), .int 0, .int 0])), ((u11 0), .inl (T 0, 20, .inl (fun _ => 0))), (q12, .inl (T 3, 2, .inr (.inr (.inr (.inr (fun _ => none))))))] H := hP
  have hD : va_D A [(h0, .inr (2, [.int 0, .int 0, .int 0, .ref q1, .ref q2, .ref q3, .ref q4, .ref q5, .ref q6, .ref q7, .int 0, .int 0, .int 0, .int 0, .int 0, .int 1, .ref q8, .ref q10, .ref q12])), (m1, .inr (3, [.int 0])), (q1, .inl (T 0, 8, .inl (fun _ => 0))), (q2, .inl (T 0, 8, .inl (fun _ => 0))), (q3, .inl (T 0, 8, .inl (fun _ => 0))), (q4, .inl (T 0, 8, .inl (fun _ => 0))), (q5, .inl (T 1, 6, .inr (.inr (.inr (.inr (va_up (va_up (va_up (fun _ => none) 0 (some m1)) 1 (some m1)) 2 (some m1))))))), (q6, .inl (T 0, 6, .inl (fun _ => 0))), (q7, .inl (T 0, 6, .inl (fun _ => 0))), (q8, .inr (4, [.ref (u9 0), .int 0, .int 0])), ((u9 0), .inl (T 0, 50, .inl (fun _ => 0))), (q10, .inr (4, [.ref (u11 0), .int 0, .int 0])), ((u11 0), .inl (T 0, 20, .inl (fun _ => 0))), (q12, .inl (T 3, 2, .inr (.inr (.inr (.inr (fun _ => none))))))] := hD
  refine lv_iinc (v := 3) (lv' := [(2, .int 3), (0, .ref h0), (1, .ref m1)]) hx hb dX2_init_155 hl (k := 0) rfl (by decide) (by decide) rfl (fun ls hl => ?_)
  refine lv_goto (tgt := 142) hx hb dX2_init_158 (by decide) ?_
  refine lv_iload_n hx hb dX2_init_142 rfl (lv_at hl 0 rfl) ?_
  refine lv_bipush (v := 6) hx hb dX2_init_143 (by decide) ?_
  refine lv_icmp_ge (tgt := 161) hx hb dX2_init_145 (by decide) (fun q => absurd q (by decide)) (fun _ => ?_)
  refine lv_aload_n hx hb dX2_init_148 rfl (lv_at hl 1 rfl) ?_
  refine va_get (C := "OneOfTwo$House") (T := TX2) (N := 19) hx hb C.1.2.2.2.2 in_X2 C.1.2.2.2.1 C.2.1 hP 0 rfl rfl 7 (by decide) (C.1.2.2.2.2 _ tw_1_148) (fun _ h => h) rfl dX2_init_149 ?_
  refine lv_iload_n hx hb dX2_init_152 rfl (lv_at hl 0 rfl) ?_
  refine lv_aload_n hx hb dX2_init_153 rfl (lv_at hl 2 rfl) ?_
  refine va_astq hx hb C.2.1 hP hD hS 6 1 1 3 (r := (RX3, TX3, 1)) rfl rfl rfl rfl (vin rfl) dX2_init_154 (fun H locs hP hD hS => ?_)
  have hP : va_P D vwCl [(h0, .inr (2, [.int 0, .int 0, .int 0, .ref q1, .ref q2, .ref q3, .ref q4, .ref q5, .ref q6, .ref q7, .int 0, .int 0, .int 0, .int 0, .int 0, .int 1, .ref q8, .ref q10, .ref q12])), (m1, .inr (3, [.int 0])), (q1, .inl (T 0, 8, .inl (fun _ => 0))), (q2, .inl (T 0, 8, .inl (fun _ => 0))), (q3, .inl (T 0, 8, .inl (fun _ => 0))), (q4, .inl (T 0, 8, .inl (fun _ => 0))), (q5, .inl (T 1, 6, .inr (.inr (.inr (.inr (va_up (va_up (va_up (va_up (fun _ => none) 0 (some m1)) 1 (some m1)) 2 (some m1)) 3 (some m1))))))), (q6, .inl (T 0, 6, .inl (fun _ => 0))), (q7, .inl (T 0, 6, .inl (fun _ => 0))), (q8, .inr (4, [.ref (u9 0), .int 0, .int 0])), ((u9 0), .inl (T 0, 50, .inl (fun _ => 0))), (q10, .inr (4, [.ref (u11 0), .int 0, .int 0])), ((u11 0), .inl (T 0, 20, .inl (fun _ => 0))), (q12, .inl (T 3, 2, .inr (.inr (.inr (.inr (fun _ => none))))))] H := hP
  have hD : va_D A [(h0, .inr (2, [.int 0, .int 0, .int 0, .ref q1, .ref q2, .ref q3, .ref q4, .ref q5, .ref q6, .ref q7, .int 0, .int 0, .int 0, .int 0, .int 0, .int 1, .ref q8, .ref q10, .ref q12])), (m1, .inr (3, [.int 0])), (q1, .inl (T 0, 8, .inl (fun _ => 0))), (q2, .inl (T 0, 8, .inl (fun _ => 0))), (q3, .inl (T 0, 8, .inl (fun _ => 0))), (q4, .inl (T 0, 8, .inl (fun _ => 0))), (q5, .inl (T 1, 6, .inr (.inr (.inr (.inr (va_up (va_up (va_up (va_up (fun _ => none) 0 (some m1)) 1 (some m1)) 2 (some m1)) 3 (some m1))))))), (q6, .inl (T 0, 6, .inl (fun _ => 0))), (q7, .inl (T 0, 6, .inl (fun _ => 0))), (q8, .inr (4, [.ref (u9 0), .int 0, .int 0])), ((u9 0), .inl (T 0, 50, .inl (fun _ => 0))), (q10, .inr (4, [.ref (u11 0), .int 0, .int 0])), ((u11 0), .inl (T 0, 20, .inl (fun _ => 0))), (q12, .inl (T 3, 2, .inr (.inr (.inr (.inr (fun _ => none))))))] := hD
  refine lv_iinc (v := 4) (lv' := [(2, .int 4), (0, .ref h0), (1, .ref m1)]) hx hb dX2_init_155 hl (k := 0) rfl (by decide) (by decide) rfl (fun ls hl => ?_)
  refine lv_goto (tgt := 142) hx hb dX2_init_158 (by decide) ?_
  refine lv_iload_n hx hb dX2_init_142 rfl (lv_at hl 0 rfl) ?_
  refine lv_bipush (v := 6) hx hb dX2_init_143 (by decide) ?_
  refine lv_icmp_ge (tgt := 161) hx hb dX2_init_145 (by decide) (fun q => absurd q (by decide)) (fun _ => ?_)
  refine lv_aload_n hx hb dX2_init_148 rfl (lv_at hl 1 rfl) ?_
  refine va_get (C := "OneOfTwo$House") (T := TX2) (N := 19) hx hb C.1.2.2.2.2 in_X2 C.1.2.2.2.1 C.2.1 hP 0 rfl rfl 7 (by decide) (C.1.2.2.2.2 _ tw_1_148) (fun _ h => h) rfl dX2_init_149 ?_
  refine lv_iload_n hx hb dX2_init_152 rfl (lv_at hl 0 rfl) ?_
  refine lv_aload_n hx hb dX2_init_153 rfl (lv_at hl 2 rfl) ?_
  refine va_astq hx hb C.2.1 hP hD hS 6 1 1 3 (r := (RX3, TX3, 1)) rfl rfl rfl rfl (vin rfl) dX2_init_154 (fun H locs hP hD hS => ?_)
  have hP : va_P D vwCl [(h0, .inr (2, [.int 0, .int 0, .int 0, .ref q1, .ref q2, .ref q3, .ref q4, .ref q5, .ref q6, .ref q7, .int 0, .int 0, .int 0, .int 0, .int 0, .int 1, .ref q8, .ref q10, .ref q12])), (m1, .inr (3, [.int 0])), (q1, .inl (T 0, 8, .inl (fun _ => 0))), (q2, .inl (T 0, 8, .inl (fun _ => 0))), (q3, .inl (T 0, 8, .inl (fun _ => 0))), (q4, .inl (T 0, 8, .inl (fun _ => 0))), (q5, .inl (T 1, 6, .inr (.inr (.inr (.inr (va_up (va_up (va_up (va_up (va_up (fun _ => none) 0 (some m1)) 1 (some m1)) 2 (some m1)) 3 (some m1)) 4 (some m1))))))), (q6, .inl (T 0, 6, .inl (fun _ => 0))), (q7, .inl (T 0, 6, .inl (fun _ => 0))), (q8, .inr (4, [.ref (u9 0), .int 0, .int 0])), ((u9 0), .inl (T 0, 50, .inl (fun _ => 0))), (q10, .inr (4, [.ref (u11 0), .int 0, .int 0])), ((u11 0), .inl (T 0, 20, .inl (fun _ => 0))), (q12, .inl (T 3, 2, .inr (.inr (.inr (.inr (fun _ => none))))))] H := hP
  have hD : va_D A [(h0, .inr (2, [.int 0, .int 0, .int 0, .ref q1, .ref q2, .ref q3, .ref q4, .ref q5, .ref q6, .ref q7, .int 0, .int 0, .int 0, .int 0, .int 0, .int 1, .ref q8, .ref q10, .ref q12])), (m1, .inr (3, [.int 0])), (q1, .inl (T 0, 8, .inl (fun _ => 0))), (q2, .inl (T 0, 8, .inl (fun _ => 0))), (q3, .inl (T 0, 8, .inl (fun _ => 0))), (q4, .inl (T 0, 8, .inl (fun _ => 0))), (q5, .inl (T 1, 6, .inr (.inr (.inr (.inr (va_up (va_up (va_up (va_up (va_up (fun _ => none) 0 (some m1)) 1 (some m1)) 2 (some m1)) 3 (some m1)) 4 (some m1))))))), (q6, .inl (T 0, 6, .inl (fun _ => 0))), (q7, .inl (T 0, 6, .inl (fun _ => 0))), (q8, .inr (4, [.ref (u9 0), .int 0, .int 0])), ((u9 0), .inl (T 0, 50, .inl (fun _ => 0))), (q10, .inr (4, [.ref (u11 0), .int 0, .int 0])), ((u11 0), .inl (T 0, 20, .inl (fun _ => 0))), (q12, .inl (T 3, 2, .inr (.inr (.inr (.inr (fun _ => none))))))] := hD
  refine lv_iinc (v := 5) (lv' := [(2, .int 5), (0, .ref h0), (1, .ref m1)]) hx hb dX2_init_155 hl (k := 0) rfl (by decide) (by decide) rfl (fun ls hl => ?_)
  refine lv_goto (tgt := 142) hx hb dX2_init_158 (by decide) ?_
  refine lv_iload_n hx hb dX2_init_142 rfl (lv_at hl 0 rfl) ?_
  refine lv_bipush (v := 6) hx hb dX2_init_143 (by decide) ?_
  refine lv_icmp_ge (tgt := 161) hx hb dX2_init_145 (by decide) (fun q => absurd q (by decide)) (fun _ => ?_)
  refine lv_aload_n hx hb dX2_init_148 rfl (lv_at hl 1 rfl) ?_
  refine va_get (C := "OneOfTwo$House") (T := TX2) (N := 19) hx hb C.1.2.2.2.2 in_X2 C.1.2.2.2.1 C.2.1 hP 0 rfl rfl 7 (by decide) (C.1.2.2.2.2 _ tw_1_148) (fun _ h => h) rfl dX2_init_149 ?_
  refine lv_iload_n hx hb dX2_init_152 rfl (lv_at hl 0 rfl) ?_
  refine lv_aload_n hx hb dX2_init_153 rfl (lv_at hl 2 rfl) ?_
  refine va_astq hx hb C.2.1 hP hD hS 6 1 1 3 (r := (RX3, TX3, 1)) rfl rfl rfl rfl (vin rfl) dX2_init_154 (fun H locs hP hD hS => ?_)
  have hP : va_P D vwCl [(h0, .inr (2, [.int 0, .int 0, .int 0, .ref q1, .ref q2, .ref q3, .ref q4, .ref q5, .ref q6, .ref q7, .int 0, .int 0, .int 0, .int 0, .int 0, .int 1, .ref q8, .ref q10, .ref q12])), (m1, .inr (3, [.int 0])), (q1, .inl (T 0, 8, .inl (fun _ => 0))), (q2, .inl (T 0, 8, .inl (fun _ => 0))), (q3, .inl (T 0, 8, .inl (fun _ => 0))), (q4, .inl (T 0, 8, .inl (fun _ => 0))), (q5, .inl (T 1, 6, .inr (.inr (.inr (.inr (va_up (va_up (va_up (va_up (va_up (va_up (fun _ => none) 0 (some m1)) 1 (some m1)) 2 (some m1)) 3 (some m1)) 4 (some m1)) 5 (some m1))))))), (q6, .inl (T 0, 6, .inl (fun _ => 0))), (q7, .inl (T 0, 6, .inl (fun _ => 0))), (q8, .inr (4, [.ref (u9 0), .int 0, .int 0])), ((u9 0), .inl (T 0, 50, .inl (fun _ => 0))), (q10, .inr (4, [.ref (u11 0), .int 0, .int 0])), ((u11 0), .inl (T 0, 20, .inl (fun _ => 0))), (q12, .inl (T 3, 2, .inr (.inr (.inr (.inr (fun _ => none))))))] H := hP
  have hD : va_D A [(h0, .inr (2, [.int 0, .int 0, .int 0, .ref q1, .ref q2, .ref q3, .ref q4, .ref q5, .ref q6, .ref q7, .int 0, .int 0, .int 0, .int 0, .int 0, .int 1, .ref q8, .ref q10, .ref q12])), (m1, .inr (3, [.int 0])), (q1, .inl (T 0, 8, .inl (fun _ => 0))), (q2, .inl (T 0, 8, .inl (fun _ => 0))), (q3, .inl (T 0, 8, .inl (fun _ => 0))), (q4, .inl (T 0, 8, .inl (fun _ => 0))), (q5, .inl (T 1, 6, .inr (.inr (.inr (.inr (va_up (va_up (va_up (va_up (va_up (va_up (fun _ => none) 0 (some m1)) 1 (some m1)) 2 (some m1)) 3 (some m1)) 4 (some m1)) 5 (some m1))))))), (q6, .inl (T 0, 6, .inl (fun _ => 0))), (q7, .inl (T 0, 6, .inl (fun _ => 0))), (q8, .inr (4, [.ref (u9 0), .int 0, .int 0])), ((u9 0), .inl (T 0, 50, .inl (fun _ => 0))), (q10, .inr (4, [.ref (u11 0), .int 0, .int 0])), ((u11 0), .inl (T 0, 20, .inl (fun _ => 0))), (q12, .inl (T 3, 2, .inr (.inr (.inr (.inr (fun _ => none))))))] := hD
  refine lv_iinc (v := 6) (lv' := [(2, .int 6), (0, .ref h0), (1, .ref m1)]) hx hb dX2_init_155 hl (k := 0) rfl (by decide) (by decide) rfl (fun ls hl => ?_)
  refine lv_goto (tgt := 142) hx hb dX2_init_158 (by decide) ?_
  refine lv_iload_n hx hb dX2_init_142 rfl (lv_at hl 0 rfl) ?_
  refine lv_bipush (v := 6) hx hb dX2_init_143 (by decide) ?_
  refine lv_icmp_ge (tgt := 161) hx hb dX2_init_145 (by decide) (fun _ => ?_) (fun q => absurd (by decide) q)
  have hP := hP.sub (ws' := [(h0, .inr (2, [.int 0, .int 0, .int 0, .ref q1, .ref q2, .ref q3, .ref q4, .ref q5, .ref q6, .ref q7, .int 0, .int 0, .int 0, .int 0, .int 0, .int 1, .ref q8, .ref q10, .ref q12])), (q1, .inl (T 0, 8, .inl (fun _ => 0))), (q2, .inl (T 0, 8, .inl (fun _ => 0))), (q3, .inl (T 0, 8, .inl (fun _ => 0))), (q4, .inl (T 0, 8, .inl (fun _ => 0))), (q5, .inl (T 1, 6, .inr (.inr (.inr (.inr (va_up (va_up (va_up (va_up (va_up (va_up (fun _ => none) 0 (some m1)) 1 (some m1)) 2 (some m1)) 3 (some m1)) 4 (some m1)) 5 (some m1))))))), (q6, .inl (T 0, 6, .inl (fun _ => 0))), (q7, .inl (T 0, 6, .inl (fun _ => 0))), (q8, .inr (4, [.ref (u9 0), .int 0, .int 0])), ((u9 0), .inl (T 0, 50, .inl (fun _ => 0))), (q10, .inr (4, [.ref (u11 0), .int 0, .int 0])), ((u11 0), .inl (T 0, 20, .inl (fun _ => 0))), (q12, .inl (T 3, 2, .inr (.inr (.inr (.inr (fun _ => none)))))), (m1, .inr (3, [.int 0]))]) [0, 2, 3, 4, 5, 6, 7, 8, 9, 10, 11, 12, 13, 1] rfl
  have hD := hD.sub (ws' := [(h0, .inr (2, [.int 0, .int 0, .int 0, .ref q1, .ref q2, .ref q3, .ref q4, .ref q5, .ref q6, .ref q7, .int 0, .int 0, .int 0, .int 0, .int 0, .int 1, .ref q8, .ref q10, .ref q12])), (q1, .inl (T 0, 8, .inl (fun _ => 0))), (q2, .inl (T 0, 8, .inl (fun _ => 0))), (q3, .inl (T 0, 8, .inl (fun _ => 0))), (q4, .inl (T 0, 8, .inl (fun _ => 0))), (q5, .inl (T 1, 6, .inr (.inr (.inr (.inr (va_up (va_up (va_up (va_up (va_up (va_up (fun _ => none) 0 (some m1)) 1 (some m1)) 2 (some m1)) 3 (some m1)) 4 (some m1)) 5 (some m1))))))), (q6, .inl (T 0, 6, .inl (fun _ => 0))), (q7, .inl (T 0, 6, .inl (fun _ => 0))), (q8, .inr (4, [.ref (u9 0), .int 0, .int 0])), ((u9 0), .inl (T 0, 50, .inl (fun _ => 0))), (q10, .inr (4, [.ref (u11 0), .int 0, .int 0])), ((u11 0), .inl (T 0, 20, .inl (fun _ => 0))), (q12, .inl (T 3, 2, .inr (.inr (.inr (.inr (fun _ => none)))))), (m1, .inr (3, [.int 0]))]) [0, 2, 3, 4, 5, 6, 7, 8, 9, 10, 11, 12, 13, 1] (by decide) rfl
  exact W.vret hx hb hr (fun t ht hW => ⟨⟨fun k => ([q1, q2, q3, q4, q5, q6, q7, q8, (u9 0), q10, (u11 0), q12] : List Nat).getD k 0, rfl, trivial, by rw [ht]; exact hP, hD⟩, hS.F ht⟩) hS.2.2 dX2_init_161 hlk
