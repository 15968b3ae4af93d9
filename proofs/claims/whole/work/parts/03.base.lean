/-! ===== the memory of one side: objects and arrays by number, each a row of ints; references are numbers ===== -/
abbrev Mem : Type := Nat → Nat → Int32
abbrev ET : Type := (Nat → ClassId) → (Nat → Nat) → Nat → (Nat → Int32) → va_E
def mu (M : Mem) (k : Nat) (f : Nat → Int32) : Mem := fun a => if a = k then f else M a
/-- place j of number k becomes v -/
def sf (M : Mem) (k j : Nat) (v : Int32) : Mem := mu M k (upd (M k) j v)
theorem mu_s (M : Mem) (k : Nat) (f : Nat → Int32) : mu M k f k = f := if_pos rfl
theorem mu_n (M : Mem) {k a : Nat} (f : Nat → Int32) (h : a ≠ k) : mu M k f a = M a := if_neg h
def wsE (E : ET) (T : Nat → ClassId) (ad : Nat → Nat) (K : Nat) (M : Mem) : va_W := (List.range K).map fun k => (ad k, E T ad k (M k))
theorem ws_at {E : ET} {T : Nat → ClassId} {ad : Nat → Nat} {K k : Nat} {M : Mem} (h : k < K) : (wsE E T ad K M)[k]? = some (ad k, E T ad k (M k)) := by
  unfold wsE
  rw [List.getElem?_map, List.getElem?_range h]
  rfl
theorem ws_len {E : ET} {T : Nat → ClassId} {ad : Nat → Nat} {K : Nat} {M : Mem} : (wsE E T ad K M).length = K := by simp [wsE]
theorem ws_inv {E : ET} {T : Nat → ClassId} {ad : Nat → Nat} {K k : Nat} {M : Mem} {q : Nat × va_E} (h : (wsE E T ad K M)[k]? = some q) : k < K ∧ q = (ad k, E T ad k (M k)) := by
  have hk : k < K := by
    have := (List.getElem?_eq_some_iff.mp h).1
    rwa [ws_len] at this
  rw [ws_at hk] at h
  exact ⟨hk, (Option.some.inj h).symm⟩
theorem ws_set {E : ET} {T : Nat → ClassId} {ad : Nat → Nat} {K k : Nat} {M : Mem} {f : Nat → Int32} {e : va_E} (h : k < K) (he : E T ad k f = e) : (wsE E T ad K M).set k (ad k, e) = wsE E T ad K (mu M k f) := by
  subst he
  apply List.ext_getElem?
  intro i
  by_cases hi : i < K
  · by_cases hik : k = i
    · subst hik
      rw [List.getElem?_set_self (by rw [ws_len]; exact h), ws_at h, mu_s]
    · rw [List.getElem?_set_ne hik, ws_at hi, ws_at hi, mu_n _ _ (Ne.symm hik)]
  · rw [List.getElem?_eq_none (by rw [List.length_set, ws_len]; omega), List.getElem?_eq_none (by rw [ws_len]; omega)]
def tysOf (T : Nat → ClassId) : List (ClassId × FieldType) := [(T 0, .int), (T 1, .object "OneOfTwo$Lodger"), (T 2, .object "OneOfTwo$Row"), (T 3, .object "OneOfTwo$Text")]
abbrev Pw (E : ET) (T : Nat → ClassId) (D : va_G) (ad : Nat → Nat) (K : Nat) (M : Mem) (H : Heap) : Prop := va_P D vwCl (wsE E T ad K M) H
/-- the tables' say of the kinds: each is a Lodger -/
def XF (U : State) : Prop := va_Nw (.castable "OneOfTwo$Cougher" "OneOfTwo$Lodger") U ∧ va_Nw (.castable "OneOfTwo$Smoker" "OneOfTwo$Lodger") U ∧ va_Nw (.castable "OneOfTwo$Sleeper" "OneOfTwo$Lodger") U ∧ va_Nw (.castable "OneOfTwo$Fevered" "OneOfTwo$Lodger") U ∧ va_Nw (.castable "OneOfTwo$Strong" "OneOfTwo$Lodger") U ∧ va_Nw (.castable "OneOfTwo$Spiteful" "OneOfTwo$Lodger") U
theorem XF.same {u U : State} (h : u.vm = U.vm) (x : XF u) : XF U := ⟨va_Nw.same rfl h x.1, va_Nw.same rfl h x.2.1, va_Nw.same rfl h x.2.2.1, va_Nw.same rfl h x.2.2.2.1, va_Nw.same rfl h x.2.2.2.2.1, va_Nw.same rfl h x.2.2.2.2.2⟩
theorem XF.warm {s U : State} (hW : s.WarmedH U.vm) (x : XF s) : XF U := ⟨va_Nw.warmC hW x.1, va_Nw.warmC hW x.2.1, va_Nw.warmC hW x.2.2.1, va_Nw.warmC hW x.2.2.2.1, va_Nw.warmC hW x.2.2.2.2.1, va_Nw.warmC hW x.2.2.2.2.2⟩
def KK (T : Nat → ClassId) (D : va_G) (U : State) : Prop := va_K D vwCl (tysOf T) U ∧ XF U
theorem KK.warm {T : Nat → ClassId} {D : va_G} {s U : State} (hW : s.WarmedH U.vm) (h : KK T D s) : KK T D U := ⟨va_K.moved hW.alike h.1, h.2.warm hW⟩
theorem KK.call {T : Nat → ClassId} {D : va_G} {U : State} {g : JFrame} {mk : MethodId} {a : Array Value} (h : KK T D U) : KK T D (U.calling g mk a) := ⟨va_K.moved (u := U) (U := U.calling g mk a) (Vm.Alike.refl U.vm) h.1, h.2.same rfl⟩
def Cx (T : Nat → ClassId) (D : va_G) (p : Program) (s : State) (m : MethodId) (args : Array Value) (c : Code) (cc : ByteArray) (nL : Nat) (own : String) : Prop := CallFix p m c cc nL s args TB own ∧ KK T D s
def AA (ad : Nat → Nat) (K sz : Nat) : Nat → Prop := fun q => (∃ k, k < K ∧ q = ad k) ∨ sz ≤ q
def Dd (ad : Nat → Nat) (K : Nat) : Prop := ∀ i j, i < K → j < K → ad i = ad j → i = j
def Zz (E : ET) (T : Nat → ClassId) (D : va_G) (ad : Nat → Nat) (K : Nat) (A : Nat → Prop) (H0 : Heap) (M : Mem) (H : Heap) (locs : List Loc) : Prop :=
  Pw E T D ad K M H ∧ Dd ad K ∧ (∀ k, k < K → A (ad k)) ∧ (∀ q, H0.size ≤ q → A q) ∧ va_S A H0 H locs
theorem Dd.D {E : ET} {T : Nat → ClassId} {ad : Nat → Nat} {K : Nat} {A : Nat → Prop} {M : Mem} (h : Dd ad K) (hA : ∀ k, k < K → A (ad k)) : va_D A (wsE E T ad K M) := by
  refine ⟨fun i j x y hi hj hxy => ?_, fun k q hq => ?_⟩
  · obtain ⟨h1, rfl⟩ := ws_inv hi
    obtain ⟨h2, rfl⟩ := ws_inv hj
    exact h i j h1 h2 hxy
  · obtain ⟨h1, rfl⟩ := ws_inv hq
    exact hA k h1
theorem Zz.D {E : ET} {T : Nat → ClassId} {D : va_G} {ad : Nat → Nat} {K : Nat} {A : Nat → Prop} {H0 : Heap} {M : Mem} {H : Heap} {locs : List Loc} (Z : Zz E T D ad K A H0 M H locs) : va_D A (wsE E T ad K M) := Z.2.1.D Z.2.2.1
/-- number a is an int array of n places; number k is an object of class ci whose fields are F -/
def IA (E : ET) (K a n : Nat) : Prop := a < K ∧ ∀ (T : Nat → ClassId) (ad : Nat → Nat) (f : Nat → Int32), E T ad a f = .inl (T 0, n, .inl f)
def OA (E : ET) (K k ci : Nat) (F : (Nat → Nat) → (Nat → Int32) → List Value) : Prop := k < K ∧ ∀ (T : Nat → ClassId) (ad : Nat → Nat) (f : Nat → Int32), E T ad k f = .inr (ci, F ad f)
def rO (ad : Nat → Nat) (x : Int32) : Option Nat := if x = 0 then none else some (ad x.toNatClampNeg)
/-- number a is an array of n references of kind t -/
def RA (E : ET) (K a n t : Nat) : Prop := a < K ∧ ∀ (T : Nat → ClassId) (ad : Nat → Nat) (f : Nat → Int32), E T ad a f = .inl (T t, n, .inr (.inr (.inr (.inr fun i => rO ad (f i)))))
/-! ===== contracts: what a method that only reads, and one that writes, begins and ends with ===== -/
def RdP (E : ET) (T : Nat → ClassId) (D : va_G) (ad : Nat → Nat) (K : Nat) (M : Mem) : State → Prop := fun U => Pw E T D ad K M U.heap ∧ KK T D U
def QcR (Q : Int32 → Prop) : Array Value → State → Outcome → State → Prop := fun _ st o t => ∃ r : Int32, o = .returned (some (.int r)) ∧ Q r ∧ t.heap = st.heap
def WrP (E : ET) (T : Nat → ClassId) (D : va_G) (ad : Nat → Nat) (K : Nat) (M : Mem) (sz : Nat) : State → Prop := fun U => U.heap.size = sz ∧ Pw E T D ad K M U.heap ∧ KK T D U ∧ Dd ad K
def QcW (E : ET) (T : Nat → ClassId) (D : va_G) (ad : Nat → Nat) (K : Nat) (A : Nat → Prop) (Q : Int32 → Mem → Prop) : Array Value → State → Outcome → State → Prop := fun _ st o t => (∃ (r : Int32) (M : Mem), o = .returned (some (.int r)) ∧ Q r M ∧ Pw E T D ad K M t.heap) ∧ va_F A st t
def QcV (E : ET) (T : Nat → ClassId) (D : va_G) (ad : Nat → Nat) (K : Nat) (A : Nat → Prop) (Q : Mem → Prop) : Array Value → State → Outcome → State → Prop := fun _ st o t => (∃ M : Mem, o = .returned none ∧ Q M ∧ Pw E T D ad K M t.heap) ∧ va_F A st t
abbrev RM (n : Nat) : Room := { frames := n, cells := 0, slots := 0, locals := 48 * n }
theorem blR {E : ET} {T : Nat → ClassId} {D : va_G} {ad : Nat → Nat} {K : Nat} {M : Mem} {av : List Value} : FrameBlind (va_Pc av (RdP E T D ad K M)) :=
  fun a U g mk h => ⟨h.1, h.2.1, h.2.2.call⟩
theorem blW {E : ET} {T : Nat → ClassId} {D : va_G} {ad : Nat → Nat} {K : Nat} {M : Mem} {sz : Nat} {av : List Value} : FrameBlind (va_Pc av (WrP E T D ad K M sz)) :=
  fun a U g mk h => ⟨h.1, h.2.1, h.2.2.1, h.2.2.2.1.call, h.2.2.2.2⟩
theorem gdT {y : MethodName} {b : ByteArray} {n : Nat} {ret : Option FieldType} (h : Cond.code y b n ret ∈ TB) : GoodIn TB (Cond.code y b n ret :: TB) := by
  intro w hw
  rcases List.mem_cons.mp hw with rfl | hw
  · exact tb_good h
  · exact tb_good hw
section BASE
variable {p : Program} {l : Launch} {e : Env} {R : Room} {s : State} {m : MethodId} {args : Array Value} {below : List Frame} {meth : Method} {c : Code} {H : Heap} {locs : List Loc} {cells slots : Nat} {Q : State → Prop}
variable {cc : ByteArray} {nL : Nat} {own : String} {pc : Nat} {ls : Array Slot} {rest st0 : List Value} {a : Array Value} {E : ET} {T : Nat → ClassId} {D : va_G} {ad : Nat → Nat} {K : Nat} {A : Nat → Prop} {H0 : Heap} {M : Mem}
theorem Cx.x (C : Cx T D p s m args c cc nL own) : p.tables.exec = Jvm.exec := C.1.1
theorem Cx.b (C : Cx T D p s m args c cc nL own) : c.code = cc := C.1.2.1
theorem cl_R {Q1 : Int32 → Prop} (hr : va_Run p l e R s m args below meth c H locs cells slots 0 0 (F0 m pc ls st0) rest (QcR Q1 a) (fun _ => False)) (kk : ∀ r : Int32, Q1 r → W p l e R s m args below meth c H locs cells slots Q (F0 m (pc + 3) ls (.int r :: rest))) : W p l e R s m args below meth c H locs cells slots Q (F0 m pc ls st0) := by
  intro U hU X
  obtain ⟨v, st₀, t, T', L, h0, X', hL, e1, e2, ⟨r, hv, hq, hh⟩, st⟩ := hr U hU X
  cases hv
  have hn : L = [] := by
    cases L with
    | nil => rfl
    | cons q L => exact (hL q List.mem_cons_self).elim
  subst hn
  rw [List.append_nil] at X'
  obtain ⟨t2, a1, b1⟩ := kk r hq T' (by rw [e1, hh, h0]) X'
  exact ⟨t2, st t2 a1, b1⟩
theorem AA.up {sz : Nat} (hA : ∀ k, k < K → A (ad k)) (hB : ∀ q, sz ≤ q → A q) : ∀ q, AA ad K sz q → A q := by
  intro q h
  rcases h with ⟨k, hk, rfl⟩ | h
  · exact hA k hk
  · exact hB q h
theorem cl_W {Q1 : Int32 → Mem → Prop} (hr : va_Run p l e R s m args below meth c H locs cells slots 0 0 (F0 m pc ls st0) rest (QcW E T D ad K (AA ad K H.size) Q1 a) (AA ad K H.size)) (Z : Zz E T D ad K A H0 M H locs) (kk : ∀ (r : Int32) (M1 : Mem) (H1 : Heap) (locs1 : List Loc), Q1 r M1 → Zz E T D ad K A H0 M1 H1 locs1 → W p l e R s m args below meth c H1 locs1 cells slots Q (F0 m (pc + 3) ls (.int r :: rest))) : W p l e R s m args below meth c H locs cells slots Q (F0 m pc ls st0) := by
  obtain ⟨hP, hD, hA, hB, hS⟩ := Z
  have hU : ∀ q, AA ad K H.size q → A q := AA.up hA (fun q hq => hB q (Nat.le_trans hS.1 hq))
  intro U hU0 X
  obtain ⟨v, st₀, t, T', L, h0, X', hL, e1, e2, ⟨⟨r, M1, hv, hq, hp⟩, hz, hk⟩, st⟩ := hr U hU0 X
  cases hv
  rw [h0] at hz hk
  obtain ⟨t2, a1, b1⟩ := kk r M1 T'.heap (locs ++ L) hq ⟨by rw [e1]; exact hp, hD, hA, hB, Nat.le_trans hS.1 (by rw [e1]; exact hz), fun q h1 h2 => by rw [e1, hk q (Nat.lt_of_lt_of_le h1 hS.1) (fun z => h2 (hU q z))]; exact hS.2.1 q h1 h2, fun q hq => by
      rcases List.mem_append.mp hq with h | h
      · exact hS.2.2 q h
      · exact hU _ (hL q h)⟩ T' rfl X'
  exact ⟨t2, st t2 a1, b1⟩
theorem cl_V {Q1 : Mem → Prop} (hr : va_Run p l e R s m args below meth c H locs cells slots 0 0 (F0 m pc ls st0) rest (QcV E T D ad K (AA ad K H.size) Q1 a) (AA ad K H.size)) (Z : Zz E T D ad K A H0 M H locs) (kk : ∀ (M1 : Mem) (H1 : Heap) (locs1 : List Loc), Q1 M1 → Zz E T D ad K A H0 M1 H1 locs1 → W p l e R s m args below meth c H1 locs1 cells slots Q (F0 m (pc + 3) ls rest)) : W p l e R s m args below meth c H locs cells slots Q (F0 m pc ls st0) := by
  obtain ⟨hP, hD, hA, hB, hS⟩ := Z
  have hU : ∀ q, AA ad K H.size q → A q := AA.up hA (fun q hq => hB q (Nat.le_trans hS.1 hq))
  intro U hU0 X
  obtain ⟨v, st₀, t, T', L, h0, X', hL, e1, e2, ⟨⟨M1, hv, hq, hp⟩, hz, hk⟩, st⟩ := hr U hU0 X
  cases hv
  rw [h0] at hz hk
  obtain ⟨t2, a1, b1⟩ := kk M1 T'.heap (locs ++ L) hq ⟨by rw [e1]; exact hp, hD, hA, hB, Nat.le_trans hS.1 (by rw [e1]; exact hz), fun q h1 h2 => by rw [e1, hk q (Nat.lt_of_lt_of_le h1 hS.1) (fun z => h2 (hU q z))]; exact hS.2.1 q h1 h2, fun q hq => by
      rcases List.mem_append.mp hq with h | h
      · exact hS.2.2 q h
      · exact hU _ (hL q h)⟩ T' rfl X'
  exact ⟨t2, st t2 a1, b1⟩
/-! ends -/
theorem e_iR {Q1 : Int32 → Prop} {v : Int32} (C : CallFix p m c cc nL s args TB own) (hr : meth.sig.returnType = some .int) (hlk : meth.locks = false) (hdg : decode cc pc = .ok (.ireturn, 1)) (hq : Q1 v) : W p l e R s m args below meth c s.heap [] cells slots (MQ below (QcR Q1) args s cells slots (fun _ => False)) (F0 m pc ls [.int v]) :=
  W.iret C.1 C.2.1 hr (fun t ht _ => ⟨v, rfl, hq, ht⟩) t_nil hdg hlk
theorem nz {v : Int32} (h : v = 0 ∨ v = 1) : narrow .boolean (.int v) = .int v := by rcases h with rfl | rfl <;> rfl
theorem e_zR {Q1 : Int32 → Prop} {v : Int32} (C : CallFix p m c cc nL s args TB own) (hr : meth.sig.returnType = some .boolean) (hlk : meth.locks = false) (hdg : decode cc pc = .ok (.ireturn, 1)) (hz : v = 0 ∨ v = 1) (hq : Q1 v) : W p l e R s m args below meth c s.heap [] cells slots (MQ below (QcR Q1) args s cells slots (fun _ => False)) (F0 m pc ls [.int v]) :=
  W.zret C.1 C.2.1 hr (nz hz) (fun t ht _ => ⟨v, rfl, hq, ht⟩) t_nil hdg hlk
theorem e_iW {Q1 : Int32 → Mem → Prop} {v : Int32} (C : Cx T D p s m args c cc nL own) (hr : meth.sig.returnType = some .int) (hlk : meth.locks = false) (Z : Zz E T D ad K A s.heap M H locs) (hdg : decode cc pc = .ok (.ireturn, 1)) (hq : Q1 v M) : W p l e R s m args below meth c H locs cells slots (MQ below (QcW E T D ad K A Q1) args s cells slots A) (F0 m pc ls [.int v]) :=
  W.iret C.x C.b hr (fun t ht _ => ⟨⟨v, M, rfl, hq, by rw [ht]; exact Z.1⟩, Z.2.2.2.2.F ht⟩) Z.2.2.2.2.2.2 hdg hlk
theorem e_zW {Q1 : Int32 → Mem → Prop} {v : Int32} (C : Cx T D p s m args c cc nL own) (hr : meth.sig.returnType = some .boolean) (hlk : meth.locks = false) (Z : Zz E T D ad K A s.heap M H locs) (hdg : decode cc pc = .ok (.ireturn, 1)) (hz : v = 0 ∨ v = 1) (hq : Q1 v M) : W p l e R s m args below meth c H locs cells slots (MQ below (QcW E T D ad K A Q1) args s cells slots A) (F0 m pc ls [.int v]) :=
  W.zret C.x C.b hr (nz hz) (fun t ht _ => ⟨⟨v, M, rfl, hq, by rw [ht]; exact Z.1⟩, Z.2.2.2.2.F ht⟩) Z.2.2.2.2.2.2 hdg hlk
theorem e_vW {Q1 : Mem → Prop} (C : Cx T D p s m args c cc nL own) (hr : meth.sig.returnType = none) (hlk : meth.locks = false) (Z : Zz E T D ad K A s.heap M H locs) (hdg : decode cc pc = .ok (.return_, 1)) (hq : Q1 M) : W p l e R s m args below meth c H locs cells slots (MQ below (QcV E T D ad K A Q1) args s cells slots A) (F0 m pc ls []) :=
  W.vret C.x C.b hr (fun t ht _ => ⟨⟨M, rfl, hq, by rw [ht]; exact Z.1⟩, Z.2.2.2.2.F ht⟩) Z.2.2.2.2.2.2 hdg hlk
/-! arrays of ints -/
theorem a_ld {i : Int32} {k n : Nat} (C : Cx T D p s m args c cc nL own) (hP : Pw E T D ad K M H) (ha : IA E K k n) (hin : vp_in i n) (hdg : decode cc pc = .ok (.iaload, 1))
    (kk : W p l e R s m args below meth c H locs cells slots Q (F0 m (pc + 1) ls (.int (M k i.toNatClampNeg) :: rest))) : W p l e R s m args below meth c H locs cells slots Q (F0 m pc ls (.int i :: .ref (ad k) :: rest)) :=
  va_iald C.x C.b C.2.1 hP k 0 (by rw [ws_at ha.1, ha.2]) rfl hin hdg kk
theorem a_len {k n : Nat} {v : Int32} (C : Cx T D p s m args c cc nL own) (hP : Pw E T D ad K M H) (ha : IA E K k n) (hv : Int32.ofNat n = v) (hdg : decode cc pc = .ok (.arraylength, 1))
    (kk : W p l e R s m args below meth c H locs cells slots Q (F0 m (pc + 1) ls (.int v :: rest))) : W p l e R s m args below meth c H locs cells slots Q (F0 m pc ls (.ref (ad k) :: rest)) :=
  va_alen C.x C.b C.2.1 hP k 0 (x := (n, .inl (M k))) (by rw [ws_at ha.1, ha.2]) (ty := .int) rfl hv hdg kk
theorem a_st {i v : Int32} {k n : Nat} (C : Cx T D p s m args c cc nL own) (Z : Zz E T D ad K A H0 M H locs) (ha : IA E K k n) (hin : vp_in i n) (hdg : decode cc pc = .ok (.iastore, 1))
    (kk : ∀ (M1 : Mem) (H1 : Heap) (locs1 : List Loc), M1 = sf M k i.toNatClampNeg v → Zz E T D ad K A H0 M1 H1 locs1 → W p l e R s m args below meth c H1 locs1 cells slots Q (F0 m (pc + 1) ls rest)) : W p l e R s m args below meth c H locs cells slots Q (F0 m pc ls (.int v :: .int i :: .ref (ad k) :: rest)) := by
  refine va_iast C.x C.b C.2.1 Z.1 Z.D Z.2.2.2.2 k 0 (n := n) (f := M k) (by rw [ws_at ha.1, ha.2]) rfl hin hdg (fun H1 locs1 hP hD hS => ?_)
  rw [ws_set ha.1 (ha.2 T ad _)] at hP
  exact kk _ H1 locs1 rfl ⟨hP, Z.2.1, Z.2.2.1, Z.2.2.2.1, hS⟩
/-! fields -/
theorem f_get {ref Cn : String} {Tn : u_T} {N ci k index : Nat} {F : (Nat → Nat) → (Nat → Int32) → List Value} (hin : ∀ w ∈ u_ws Cn Tn N, w ∈ TB) (hc : vwCl[ci]? = some (Cn, Tn, N)) (C : Cx T D p s m args c cc nL own) (hP : Pw E T D ad K M H) (ho : OA E K k ci F) (j : Nat) (hj : j < N) {v : Value} (hv : (F ad (M k))[j]? = some v) (hr : (Tn j).1 = ref) (hlink : Cond.fieldLink own index ref (Tn j).2.1 (Tn j).2.2.1 ∈ TB) (hdg : decode cc pc = .ok (.getfield index, 3))
    (kk : W p l e R s m args below meth c H locs cells slots Q (F0 m (pc + 3) ls (v :: rest))) : W p l e R s m args below meth c H locs cells slots Q (F0 m pc ls (.ref (ad k) :: rest)) := by
  subst hr
  exact va_get C.x C.b C.1.2.2.2.2 hin C.1.2.2.2.1 C.2.1 hP k (by rw [ws_at ho.1, ho.2]) hc j hj (C.1.2.2.2.2 _ hlink) (fun _ h => h) hv hdg kk
theorem f_put {ref Cn : String} {Tn : u_T} {ty0 : Nat → FieldType} {N ci k index : Nat} {F : (Nat → Nat) → (Nat → Int32) → List Value} (hin : ∀ w ∈ u_ws Cn Tn N, w ∈ TB) (hty : ∀ k, k < N → parseFieldDescriptor (Tn k).2.2.1 = some (ty0 k)) (hnm : ∀ a, a < N → ∀ b, b < N → a ≠ b → (Tn a).2.1 ≠ (Tn b).2.1) (hc : vwCl[ci]? = some (Cn, Tn, N)) (C : Cx T D p s m args c cc nL own) (Z : Zz E T D ad K A H0 M H locs) (ho : OA E K k ci F) (j : Nat) (hj : j < N) {v : Int32} (hset : (F ad (M k)).set j (.int v) = F ad (upd (M k) j v)) (hlen : j < (F ad (M k)).length) (hr : (Tn j).1 = ref) (hfin : (Tn j).2.2.2 = false) {ty : FieldType} (hd : parseFieldDescriptor (Tn j).2.2.1 = some ty) (hn : narrow ty (.int v) = .int v) (hfit : fits ty (.int v) = true) (hlink : Cond.fieldLink own index ref (Tn j).2.1 (Tn j).2.2.1 ∈ TB) (hdg : decode cc pc = .ok (.putfield index, 3))
    (kk : ∀ (M1 : Mem) (H1 : Heap) (locs1 : List Loc), M1 = sf M k j v → Zz E T D ad K A H0 M1 H1 locs1 → W p l e R s m args below meth c H1 locs1 cells slots Q (F0 m (pc + 3) ls rest)) : W p l e R s m args below meth c H locs cells slots Q (F0 m pc ls (.int v :: .ref (ad k) :: rest)) := by
  subst hr
  refine va_put C.x C.b C.1.2.2.2.2 hin ty0 hty hnm C.1.2.2.2.1 C.2.1 Z.1 Z.D Z.2.2.2.2 k (fs := F ad (M k)) (ci := ci) (by rw [ws_at ho.1, ho.2]) hc j hj (C.1.2.2.2.2 _ hlink) (fun _ h => h) hfin hd hn hfit hlen hdg (fun H1 locs1 hP hD hS => ?_)
  rw [hset, ws_set ho.1 (ho.2 T ad _)] at hP
  exact kk _ H1 locs1 rfl ⟨hP, Z.2.1, Z.2.2.1, Z.2.2.2.1, hS⟩
/-! arrays of references -/
theorem r_ld {i : Int32} {k n t : Nat} {Cn : String} (ht : (tysOf T)[t]? = some (T t, .object Cn)) (C : Cx T D p s m args c cc nL own) (hP : Pw E T D ad K M H) (ha : RA E K k n t) (hin : vp_in i n) (hdg : decode cc pc = .ok (.aaload, 1))
    (kk : W p l e R s m args below meth c H locs cells slots Q (F0 m (pc + 1) ls (va_rf (rO ad (M k i.toNatClampNeg)) :: rest))) : W p l e R s m args below meth c H locs cells slots Q (F0 m pc ls (.int i :: .ref (ad k) :: rest)) :=
  va_aldq C.x C.b C.2.1 hP k t (C := Cn) (n := n) (f := fun i => rO ad (M k i)) (by rw [ws_at ha.1, ha.2]) ht hin hdg kk
theorem rO_some {x : Int32} (h : ¬ x = 0) : va_rf (rO ad x) = .ref (ad x.toNatClampNeg) := by unfold rO; rw [if_neg h]; rfl
theorem rO_none {x : Int32} (h : x = 0) : va_rf (rO ad x) = .null := by unfold rO; rw [if_pos h]; rfl
/-! calls -/
theorem k_V {Q1 : Int32 → Prop} {y : MethodName} {bytes : ByteArray} {maxL lv n index : Nat} {ret : Option FieldType} {Cy : String} {As : List Value} {F : (Nat → Nat) → (Nat → Int32) → List Value} {ci k : Nat} {Tn : u_T} {N : Nat}
    (hM : Met l y (Cond.code y bytes maxL ret :: TB) (RM lv) (va_Pc (.ref (ad k) :: As) (RdP E T D ad K M)) (QcR Q1) 0 0 (fun _ => False))
    (hcode : Cond.code y bytes maxL ret ∈ TB) (hins : Cond.instanceMethod y ∈ TB) (hsel : Cond.selects Cy y y ∈ TB) (hini : Cond.initialized Cy ∈ TB) (hy : y.cls = Cy ∧ y.cls ≠ "java/lang/invoke/MethodHandle" ∧ y.cls ≠ "java/lang/invoke/VarHandle" ∧ (parseMethodDescriptor y.desc).map (fun d => d.parameters.length) = some n) (hc : vwCl[ci]? = some (Cy, Tn, N)) (hn : As.length = n)
    (C : Cx T D p s m args c cc nL own) (hls : ls.size = nL) (hP : Pw E T D ad K M H) (ho : OA E K k ci F) (hlink : Cond.methodLink own index y ∈ TB) (hR : lv + 1 ≤ R.frames ∧ 8 + (maxL + 11) + 48 * lv ≤ R.locals) (hcs : cells ≤ R.cells ∧ slots ≤ R.slots) (hcat : (rest.map fun v => v.category).sum ≤ 8) (hst : st0 = As.reverse ++ .ref (ad k) :: rest) (hdg : decode cc pc = .ok (.invokevirtual index, 3))
    (kk : ∀ r : Int32, Q1 r → W p l e R s m args below meth c H locs cells slots Q (F0 m (pc + 3) ls (.int r :: rest))) : W p l e R s m args below meth c H locs cells slots Q (F0 m pc ls st0) := by
  have hG : GoodIn TB (wsV own index Cy y (Cond.code y bytes maxL ret :: TB)) := by
    intro w hw
    unfold wsV at hw
    rcases List.mem_append.mp hw with hw | hw
    · simp only [List.mem_cons, List.not_mem_nil, or_false] at hw
      rcases hw with rfl | rfl | rfl | rfl
      · exact tb_good hlink
      · exact tb_good hins
      · exact tb_good hsel
      · exact tb_good hini
    · exact gdT hcode w hw
  refine cl_R (va_runV C.1 hM (cwV n C.1.2.2.2.2 hG rfl rfl rfl hy ⟨hR.1, hR.2⟩) ⟨blR, va_recv C.2.1 hP (q0 := k) hc (by rw [ws_at ho.1, ho.2]), fun U hU hW => ⟨rfl, by rw [hU]; exact hP, C.2.warm hW⟩⟩ rfl hn hls hst (lv_room hcat) hdg ⟨hcs.1, hcs.2⟩) kk
theorem k_VW {Q1 : Int32 → Mem → Prop} {y : MethodName} {bytes : ByteArray} {maxL lv n index : Nat} {ret : Option FieldType} {Cy : String} {As : List Value} {F : (Nat → Nat) → (Nat → Int32) → List Value} {ci k : Nat} {Tn : u_T} {N : Nat}
    (hM : Met l y (Cond.code y bytes maxL ret :: TB) (RM lv) (va_Pc (.ref (ad k) :: As) (WrP E T D ad K M H.size)) (QcW E T D ad K (AA ad K H.size) Q1) 0 0 (AA ad K H.size))
    (hcode : Cond.code y bytes maxL ret ∈ TB) (hins : Cond.instanceMethod y ∈ TB) (hsel : Cond.selects Cy y y ∈ TB) (hini : Cond.initialized Cy ∈ TB) (hy : y.cls = Cy ∧ y.cls ≠ "java/lang/invoke/MethodHandle" ∧ y.cls ≠ "java/lang/invoke/VarHandle" ∧ (parseMethodDescriptor y.desc).map (fun d => d.parameters.length) = some n) (hc : vwCl[ci]? = some (Cy, Tn, N)) (hn : As.length = n)
    (C : Cx T D p s m args c cc nL own) (hls : ls.size = nL) (Z : Zz E T D ad K A H0 M H locs) (ho : OA E K k ci F) (hlink : Cond.methodLink own index y ∈ TB) (hR : lv + 1 ≤ R.frames ∧ 8 + (maxL + 11) + 48 * lv ≤ R.locals) (hcs : cells ≤ R.cells ∧ slots ≤ R.slots) (hcat : (rest.map fun v => v.category).sum ≤ 8) (hst : st0 = As.reverse ++ .ref (ad k) :: rest) (hdg : decode cc pc = .ok (.invokevirtual index, 3))
    (kk : ∀ (r : Int32) (M1 : Mem) (H1 : Heap) (locs1 : List Loc), Q1 r M1 → Zz E T D ad K A H0 M1 H1 locs1 → W p l e R s m args below meth c H1 locs1 cells slots Q (F0 m (pc + 3) ls (.int r :: rest))) : W p l e R s m args below meth c H locs cells slots Q (F0 m pc ls st0) := by
  have hG : GoodIn TB (wsV own index Cy y (Cond.code y bytes maxL ret :: TB)) := by
    intro w hw
    unfold wsV at hw
    rcases List.mem_append.mp hw with hw | hw
    · simp only [List.mem_cons, List.not_mem_nil, or_false] at hw
      rcases hw with rfl | rfl | rfl | rfl
      · exact tb_good hlink
      · exact tb_good hins
      · exact tb_good hsel
      · exact tb_good hini
    · exact gdT hcode w hw
  refine cl_W (va_runV C.1 hM (cwV n C.1.2.2.2.2 hG rfl rfl rfl hy ⟨hR.1, hR.2⟩) ⟨blW, va_recv C.2.1 Z.1 (q0 := k) hc (by rw [ws_at ho.1, ho.2]), fun U hU hW => ⟨rfl, by rw [hU], by rw [hU]; exact Z.1, C.2.warm hW, Z.2.1⟩⟩ rfl hn hls hst (lv_room hcat) hdg ⟨hcs.1, hcs.2⟩) Z kk
theorem k_VV {Q1 : Mem → Prop} {y : MethodName} {bytes : ByteArray} {maxL lv n index : Nat} {ret : Option FieldType} {Cy : String} {As : List Value} {F : (Nat → Nat) → (Nat → Int32) → List Value} {ci k : Nat} {Tn : u_T} {N : Nat}
    (hM : Met l y (Cond.code y bytes maxL ret :: TB) (RM lv) (va_Pc (.ref (ad k) :: As) (WrP E T D ad K M H.size)) (QcV E T D ad K (AA ad K H.size) Q1) 0 0 (AA ad K H.size))
    (hcode : Cond.code y bytes maxL ret ∈ TB) (hins : Cond.instanceMethod y ∈ TB) (hsel : Cond.selects Cy y y ∈ TB) (hini : Cond.initialized Cy ∈ TB) (hy : y.cls = Cy ∧ y.cls ≠ "java/lang/invoke/MethodHandle" ∧ y.cls ≠ "java/lang/invoke/VarHandle" ∧ (parseMethodDescriptor y.desc).map (fun d => d.parameters.length) = some n) (hc : vwCl[ci]? = some (Cy, Tn, N)) (hn : As.length = n)
    (C : Cx T D p s m args c cc nL own) (hls : ls.size = nL) (Z : Zz E T D ad K A H0 M H locs) (ho : OA E K k ci F) (hlink : Cond.methodLink own index y ∈ TB) (hR : lv + 1 ≤ R.frames ∧ 8 + (maxL + 11) + 48 * lv ≤ R.locals) (hcs : cells ≤ R.cells ∧ slots ≤ R.slots) (hcat : (rest.map fun v => v.category).sum ≤ 8) (hst : st0 = As.reverse ++ .ref (ad k) :: rest) (hdg : decode cc pc = .ok (.invokevirtual index, 3))
    (kk : ∀ (M1 : Mem) (H1 : Heap) (locs1 : List Loc), Q1 M1 → Zz E T D ad K A H0 M1 H1 locs1 → W p l e R s m args below meth c H1 locs1 cells slots Q (F0 m (pc + 3) ls rest)) : W p l e R s m args below meth c H locs cells slots Q (F0 m pc ls st0) := by
  have hG : GoodIn TB (wsV own index Cy y (Cond.code y bytes maxL ret :: TB)) := by
    intro w hw
    unfold wsV at hw
    rcases List.mem_append.mp hw with hw | hw
    · simp only [List.mem_cons, List.not_mem_nil, or_false] at hw
      rcases hw with rfl | rfl | rfl | rfl
      · exact tb_good hlink
      · exact tb_good hins
      · exact tb_good hsel
      · exact tb_good hini
    · exact gdT hcode w hw
  refine cl_V (va_runV C.1 hM (cwV n C.1.2.2.2.2 hG rfl rfl rfl hy ⟨hR.1, hR.2⟩) ⟨blW, va_recv C.2.1 Z.1 (q0 := k) hc (by rw [ws_at ho.1, ho.2]), fun U hU hW => ⟨rfl, by rw [hU], by rw [hU]; exact Z.1, C.2.warm hW, Z.2.1⟩⟩ rfl hn hls hst (lv_room hcat) hdg ⟨hcs.1, hcs.2⟩) Z kk
theorem gdS {own : String} {index : Nat} {y : MethodName} {b : ByteArray} {n : Nat} {ret : Option FieldType} (hcode : Cond.code y b n ret ∈ TB) (hlink : Cond.methodLink own index y ∈ TB) (hst : Cond.static y ∈ TB) (hini : Cond.initialized y.cls ∈ TB) : GoodIn TB (va_wsS own index y (Cond.code y b n ret :: TB)) := by
  intro w hw
  unfold va_wsS at hw
  rcases List.mem_append.mp hw with hw | hw
  · simp only [List.mem_cons, List.not_mem_nil, or_false] at hw
    rcases hw with rfl | rfl | rfl
    · exact tb_good hlink
    · exact tb_good hst
    · exact tb_good hini
  · exact gdT hcode w hw
/-- a static method that knows nothing of the heap -/
def StP : State → Prop := fun _ => True
theorem k_S {Q1 : Int32 → Prop} {y : MethodName} {bytes : ByteArray} {maxL lv n index : Nat} {ret : Option FieldType} {As : List Value}
    (hM : Met l y (Cond.code y bytes maxL ret :: TB) (RM lv) (va_Pc As StP) (QcR Q1) 0 0 (fun _ => False))
    (hcode : Cond.code y bytes maxL ret ∈ TB) (hstt : Cond.static y ∈ TB) (hini : Cond.initialized y.cls ∈ TB) (hy : y.cls ≠ "java/lang/invoke/MethodHandle" ∧ y.cls ≠ "java/lang/invoke/VarHandle" ∧ (parseMethodDescriptor y.desc).map (fun d => d.parameters.length) = some n) (hn : As.length = n)
    (C : CallFix p m c cc nL s args TB own) (hls : ls.size = nL) (hlink : Cond.methodLink own index y ∈ TB) (hR : lv + 1 ≤ R.frames ∧ 8 + (maxL + 11) + 48 * lv ≤ R.locals) (hcs : cells ≤ R.cells ∧ slots ≤ R.slots) (hcat : (rest.map fun v => v.category).sum ≤ 8) (hst : st0 = As.reverse ++ rest) (hdg : decode cc pc = .ok (.invokestatic index, 3))
    (kk : ∀ r : Int32, Q1 r → W p l e R s m args below meth c H locs cells slots Q (F0 m (pc + 3) ls (.int r :: rest))) : W p l e R s m args below meth c H locs cells slots Q (F0 m pc ls st0) :=
  cl_R (va_runS C hM (va_cwS n C.2.2.2.2 (gdS hcode hlink hstt hini) rfl rfl rfl hy ⟨hR.1, hR.2⟩) ⟨fun a U g mk h => ⟨h.1, trivial⟩, fun U hU hW => ⟨rfl, trivial⟩⟩ rfl hn hls hst (lv_room hcat) hdg ⟨hcs.1, hcs.2⟩) kk
end BASE
/-! beginnings -/
theorem st_R {l : Launch} {y : MethodName} {cc : ByteArray} {maxL lv : Nat} {ret : Option FieldType} {E : ET} {T : Nat → ClassId} {D : va_G} {ad : Nat → Nat} {K : Nat} {M : Mem} {Q1 : Int32 → Prop} {av : List Value} (hy : plainName y.cls = true) (hlen : (lg_sl av).length ≤ maxL)
    (body : ∀ (p : Program) (e : Env) (s : State) (m : MethodId) (args : Array Value) (below : List Frame) (meth : Method) (c : Code) (ls : Array Slot), Cx T D p s m args c cc maxL y.cls → meth.sig.returnType = ret → meth.locks = false → Pw E T D ad K M s.heap → lv_has ls maxL (lv_args 0 av) → W p l e (RM lv) s m args below meth c s.heap [] 0 0 (MQ below (QcR Q1) args s 0 0 (fun _ => False)) (F0 m 0 ls [])) :
    Met l y (Cond.code y cc maxL ret :: TB) (RM lv) (va_Pc av (RdP E T D ad K M)) (QcR Q1) 0 0 (fun _ => False) := by
  refine Met.ofW (cc := cc) (maxL := maxL) (ret := ret) hy rfl ?_
  intro p e s m args below meth c s₁ B hml hv
  obtain ⟨rfl, hP, hK⟩ := hv
  have hts := atoms_spec (ws := Cond.code y cc maxL ret :: TB) B.pre
  have hl := lv_entry av hlen
  rw [lg_entry_eq]
  exact body p e s m _ below meth c _ ⟨⟨B.exec, B.bytes, hml, findClass_of_methodNamed B.named, fun w hw => hts w (List.mem_cons_of_mem _ hw)⟩, hK⟩ B.returns B.notSynchronized hP hl
theorem st_S {l : Launch} {y : MethodName} {cc : ByteArray} {maxL lv : Nat} {ret : Option FieldType} {Q1 : Int32 → Prop} {av : List Value} (hy : plainName y.cls = true) (hlen : (lg_sl av).length ≤ maxL)
    (body : ∀ (p : Program) (e : Env) (s : State) (m : MethodId) (args : Array Value) (below : List Frame) (meth : Method) (c : Code) (ls : Array Slot), CallFix p m c cc maxL s args TB y.cls → meth.sig.returnType = ret → meth.locks = false → lv_has ls maxL (lv_args 0 av) → W p l e (RM lv) s m args below meth c s.heap [] 0 0 (MQ below (QcR Q1) args s 0 0 (fun _ => False)) (F0 m 0 ls [])) :
    Met l y (Cond.code y cc maxL ret :: TB) (RM lv) (va_Pc av StP) (QcR Q1) 0 0 (fun _ => False) := by
  refine Met.ofW (cc := cc) (maxL := maxL) (ret := ret) hy rfl ?_
  intro p e s m args below meth c s₁ B hml hv
  obtain ⟨rfl, -⟩ := hv
  have hts := atoms_spec (ws := Cond.code y cc maxL ret :: TB) B.pre
  have hl := lv_entry av hlen
  rw [lg_entry_eq]
  exact body p e s m _ below meth c _ ⟨B.exec, B.bytes, hml, findClass_of_methodNamed B.named, fun w hw => hts w (List.mem_cons_of_mem _ hw)⟩ B.returns B.notSynchronized hl
theorem st_W {l : Launch} {y : MethodName} {cc : ByteArray} {maxL lv : Nat} {ret : Option FieldType} {E : ET} {T : Nat → ClassId} {D : va_G} {ad : Nat → Nat} {K sz : Nat} {M : Mem} {Qc : Array Value → State → Outcome → State → Prop} {av : List Value} (hy : plainName y.cls = true) (hlen : (lg_sl av).length ≤ maxL)
    (body : ∀ (p : Program) (e : Env) (s : State) (m : MethodId) (args : Array Value) (below : List Frame) (meth : Method) (c : Code) (ls : Array Slot), Cx T D p s m args c cc maxL y.cls → meth.sig.returnType = ret → meth.locks = false → s.heap.size = sz → Zz E T D ad K (AA ad K sz) s.heap M s.heap [] → lv_has ls maxL (lv_args 0 av) → W p l e (RM lv) s m args below meth c s.heap [] 0 0 (MQ below Qc args s 0 0 (AA ad K sz)) (F0 m 0 ls [])) :
    Met l y (Cond.code y cc maxL ret :: TB) (RM lv) (va_Pc av (WrP E T D ad K M sz)) Qc 0 0 (AA ad K sz) := by
  refine Met.ofW (cc := cc) (maxL := maxL) (ret := ret) hy rfl ?_
  intro p e s m args below meth c s₁ B hml hv
  obtain ⟨rfl, hsz, hP, hK, hD⟩ := hv
  have hts := atoms_spec (ws := Cond.code y cc maxL ret :: TB) B.pre
  have hl := lv_entry av hlen
  rw [lg_entry_eq]
  exact body p e s m _ below meth c _ ⟨⟨B.exec, B.bytes, hml, findClass_of_methodNamed B.named, fun w hw => hts w (List.mem_cons_of_mem _ hw)⟩, hK⟩ B.returns B.notSynchronized hsz ⟨hP, hD, fun k hk => Or.inl ⟨k, hk, rfl⟩, fun q hq => Or.inr (by rw [← hsz]; exact hq), va_S.rf⟩ hl
