/-! ===== the law: two worlds side by side ===== -/
def LZ (T : Nat → ClassId) (D : va_G) (ad : Nat → Nat) (K : Nat) (am : Nat → Nat) (s : State) (Mc Mm : Mem) (H : Heap) (locs : List Loc) : Prop :=
  Pw EC T D ad (69 + K) Mc H ∧ Pw EM T D am 16 Mm H ∧ Dd ad (69 + K) ∧ Dd am 16 ∧ (∀ i j, i < 69 + K → j < 16 → ad i ≠ am j) ∧ (∀ i, i < 69 + K → s.heap.size ≤ ad i) ∧ (∀ j, j < 16 → s.heap.size ≤ am j) ∧ va_S (fun q => s.heap.size ≤ q) s.heap H locs
section LAW1
variable {p : Program} {l : Launch} {e : Env} {R : Room} {s : State} {m : MethodId} {args : Array Value} {below : List Frame} {meth : Method} {c : Code} {H : Heap} {locs : List Loc} {cells slots : Nat} {Q : State → Prop}
variable {cc : ByteArray} {nL : Nat} {own : String} {pc index : Nat} {ls : Array Slot} {rest st0 : List Value} {a : Array Value} {T : Nat → ClassId} {D : va_G} {ad am : Nat → Nat} {K : Nat} {Mc Mm : Mem}
theorem rn_V {Pc : Array Value → State → Prop} {Qc : Array Value → State → Outcome → State → Prop} {free : Addr → Prop} {y : MethodName} {bytes : ByteArray} {maxL n mc ms b : Nat} {rm : Room} {ret : Option FieldType} {Cy : String} {As : List Value}
    (hM : Met l y (Cond.code y bytes maxL ret :: TB) rm Pc Qc mc ms free) (hrc : rm.cells = mc) (hrs : rm.slots = ms)
    (hcode : Cond.code y bytes maxL ret ∈ TB) (hins : Cond.instanceMethod y ∈ TB) (hsel : Cond.selects Cy y y ∈ TB) (hini : Cond.initialized Cy ∈ TB) (hy : y.cls = Cy ∧ y.cls ≠ "java/lang/invoke/MethodHandle" ∧ y.cls ≠ "java/lang/invoke/VarHandle" ∧ (parseMethodDescriptor y.desc).map (fun d => d.parameters.length) = some n) (hn : As.length = n)
    (hbl : FrameBlind Pc) (hrecv : ∃ cellB : Cell, H[b]? = some cellB ∧ cellB.vm.isStatics = false ∧ s.vm.findClass Cy = some cellB.cls) (hpre : ∀ U : State, U.heap = H → s.WarmedH U.vm → Pc (Value.ref b :: As).toArray U)
    (C : CallFix p m c cc nL s args TB own) (hls : ls.size = nL) (hlink : Cond.methodLink own index y ∈ TB) (hR : rm.frames + 1 ≤ R.frames ∧ 8 + (maxL + 11) + rm.locals ≤ R.locals) (hcs : cells + mc ≤ R.cells ∧ slots + ms ≤ R.slots) (hcat : (rest.map fun v => v.category).sum ≤ 8) (hst : st0 = As.reverse ++ .ref b :: rest) (hdg : decode cc pc = .ok (.invokevirtual index, 3)) :
    va_Run p l e R s m args below meth c H locs cells slots mc ms (F0 m pc ls st0) rest (Qc (Value.ref b :: As).toArray) free := by
  have hG : GoodIn TB (wsV own index Cy y (Cond.code y bytes maxL ret :: TB)) := by
    intro w hw
    unfold wsV at hw
    rcases List.mem_append.mp hw with hw | hw
    · simp only [List.mem_cons, List.not_mem_nil, or_false] at hw
      rcases hw with rfl | rfl | rfl | rfl
      · exact tb_good hlink
      · exact tb_good hins
      · exact tb_good hsel
      · exact tb_good hini
    · exact gdT hcode w hw
  exact va_runV C hM (cwV n C.2.2.2.2 hG rfl hrc hrs hy hR) ⟨hbl, hrecv, hpre⟩ rfl hn hls hst (lv_room hcat) hdg hcs
theorem lk_S {A1 : Nat → Prop} {H1 : Heap} {L : List Loc} (hS : va_S (fun q => s.heap.size ≤ q) s.heap H locs) (hA : ∀ q, A1 q → s.heap.size ≤ q) (hz : H.size ≤ H1.size) (hk : ∀ q : Nat, q < H.size → ¬ A1 q → H1[q]? = H[q]?) (hL : ∀ q ∈ L, A1 q.base) : va_S (fun q => s.heap.size ≤ q) s.heap H1 (locs ++ L) :=
  ⟨Nat.le_trans hS.1 hz, fun q h1 h2 => by rw [hk q (Nat.lt_of_lt_of_le h1 hS.1) (fun z => h2 (hA q z))]; exact hS.2.1 q h1 h2, fun q hq => by
    rcases List.mem_append.mp hq with h | h
    · exact hS.2.2 q h
    · exact hA _ (hL q h)⟩
theorem AA.ge {sz b K : Nat} {ad : Nat → Nat} (h1 : ∀ i, i < K → b ≤ ad i) (h2 : b ≤ sz) : ∀ q, AA ad K sz q → b ≤ q := by
  intro q h
  rcases h with ⟨k, hk, rfl⟩ | h
  · exact h1 k hk
  · exact Nat.le_trans h2 h
theorem lk_C {Q1 : Int32 → Mem → Prop} (hr : va_Run p l e R s m args below meth c H locs cells slots 0 0 (F0 m pc ls st0) rest (QcW EC T D ad (69 + K) (AA ad (69 + K) H.size) Q1 a) (AA ad (69 + K) H.size)) (Z : LZ T D ad K am s Mc Mm H locs) (kk : ∀ (r : Int32) (M1 : Mem) (H1 : Heap) (locs1 : List Loc), Q1 r M1 → LZ T D ad K am s M1 Mm H1 locs1 → W p l e R s m args below meth c H1 locs1 cells slots Q (F0 m (pc + 3) ls (.int r :: rest))) : W p l e R s m args below meth c H locs cells slots Q (F0 m pc ls st0) := by
  obtain ⟨hP, hQ, hD, hE, hN, hA, hB, hS⟩ := Z
  intro U hU0 X
  obtain ⟨v, st₀, t, T', L, h0, X', hL, e1, e2, ⟨⟨r, M1, hv, hq, hp⟩, hz, hk⟩, st⟩ := hr U hU0 X
  cases hv
  rw [h0] at hz hk
  rw [← e1] at hz hk hp
  have hQ1 : Pw EM T D am 16 Mm T'.heap := hQ.kept (fun k x hx => by
    have hlt := (hQ k x hx).lt
    obtain ⟨hk2, rfl⟩ := ws_inv hx
    refine hk _ hlt (fun z => ?_)
    rcases z with ⟨i, hi, z⟩ | z
    · exact hN i k hi hk2 z.symm
    · exact absurd hlt (Nat.not_lt.mpr z))
  obtain ⟨t2, a1, b1⟩ := kk r M1 T'.heap (locs ++ L) hq ⟨hp, hQ1, hD, hE, hN, hA, hB, lk_S hS (AA.ge hA hS.1) hz hk hL⟩ T' rfl X'
  exact ⟨t2, st t2 a1, b1⟩
theorem lk_M {Q1 : Int32 → Mem → Prop} (hr : va_Run p l e R s m args below meth c H locs cells slots 0 0 (F0 m pc ls st0) rest (QcW EM T D am 16 (AA am 16 H.size) Q1 a) (AA am 16 H.size)) (Z : LZ T D ad K am s Mc Mm H locs) (kk : ∀ (r : Int32) (M1 : Mem) (H1 : Heap) (locs1 : List Loc), Q1 r M1 → LZ T D ad K am s Mc M1 H1 locs1 → W p l e R s m args below meth c H1 locs1 cells slots Q (F0 m (pc + 3) ls (.int r :: rest))) : W p l e R s m args below meth c H locs cells slots Q (F0 m pc ls st0) := by
  obtain ⟨hP, hQ, hD, hE, hN, hA, hB, hS⟩ := Z
  intro U hU0 X
  obtain ⟨v, st₀, t, T', L, h0, X', hL, e1, e2, ⟨⟨r, M1, hv, hq, hp⟩, hz, hk⟩, st⟩ := hr U hU0 X
  cases hv
  rw [h0] at hz hk
  rw [← e1] at hz hk hp
  have hP1 : Pw EC T D ad (69 + K) Mc T'.heap := hP.kept (fun k x hx => by
    have hlt := (hP k x hx).lt
    obtain ⟨hk2, rfl⟩ := ws_inv hx
    refine hk _ hlt (fun z => ?_)
    rcases z with ⟨i, hi, z⟩ | z
    · exact hN k i hk2 hi z
    · exact absurd hlt (Nat.not_lt.mpr z))
  obtain ⟨t2, a1, b1⟩ := kk r M1 T'.heap (locs ++ L) hq ⟨hP1, hp, hD, hE, hN, hA, hB, lk_S hS (AA.ge hB hS.1) hz hk hL⟩ T' rfl X'
  exact ⟨t2, st t2 a1, b1⟩
theorem lk_T {Q1 : Int32 → Nat → Mem → Prop} (hr : va_Run p l e R s m args below meth c H locs cells slots 3 107 (F0 m pc ls st0) rest (QcT T D ad K H.size Q1 a) (AA ad (69 + K) H.size)) (Z : LZ T D ad K am s Mc Mm H locs) (kk : ∀ (r : Int32) (K1 : Nat) (ad1 : Nat → Nat) (M1 : Mem) (H1 : Heap) (locs1 : List Loc), Q1 r K1 M1 → ad1 0 = ad 0 → LZ T D ad1 K1 am s M1 Mm H1 locs1 → W p l e R s m args below meth c H1 locs1 (cells + 3) (slots + 107) Q (F0 m (pc + 3) ls (.int r :: rest))) : W p l e R s m args below meth c H locs cells slots Q (F0 m pc ls st0) := by
  obtain ⟨hP, hQ, hD, hE, hN, hA, hB, hS⟩ := Z
  intro U hU0 X
  obtain ⟨v, st₀, t, T', L, h0, X', hL, e1, e2, ⟨⟨r, K1, ad1, M1, hv, hq, hp, hD1, ha1, hK1, hn1⟩, hz, hk⟩, st⟩ := hr U hU0 X
  cases hv
  rw [h0] at hz hk
  rw [← e1] at hz hk hp
  have hQ1 : Pw EM T D am 16 Mm T'.heap := hQ.kept (fun k x hx => by
    have hlt := (hQ k x hx).lt
    obtain ⟨hk2, rfl⟩ := ws_inv hx
    refine hk _ hlt (fun z => ?_)
    rcases z with ⟨i, hi, z⟩ | z
    · exact hN i k hi hk2 z.symm
    · exact absurd hlt (Nat.not_lt.mpr z))
  have hN1 : ∀ i j, i < 69 + K1 → j < 16 → ad1 i ≠ am j := fun i j hi hj z => by
    by_cases h : i < 69 + K
    · rw [ha1 i h] at z; exact hN i j h hj z
    · have h2 := hn1 i (Nat.le_of_not_lt h) hi
      have h3 := (hQ j _ (ws_at hj)).lt
      rw [z] at h2
      exact absurd h3 (Nat.not_lt.mpr h2)
  have hA1 : ∀ i, i < 69 + K1 → s.heap.size ≤ ad1 i := fun i hi => by
    by_cases h : i < 69 + K
    · rw [ha1 i h]; exact hA i h
    · exact Nat.le_trans hS.1 (hn1 i (Nat.le_of_not_lt h) hi)
  obtain ⟨t2, a1, b1⟩ := kk r K1 ad1 M1 T'.heap (locs ++ L) hq (ha1 0 (by omega)) ⟨hp, hQ1, hD1, hE, hN1, hA1, hB, lk_S hS (AA.ge hA hS.1) hz hk hL⟩ T' rfl X'
  exact ⟨t2, st t2 a1, b1⟩
theorem s_ld {b L k j : Nat} {xs : Nat → Int32} {i : Int32} (C : CallFix p m c cc nL s args TB own) (hX : va_X b L xs s s.heap) (hbl : b < s.heap.size) (hS : va_S (fun q => s.heap.size ≤ q) s.heap H locs) (hk : k + j < L) (hL : L ≤ 3072) (hi : i = nI (k + j)) (hdg : decode cc pc = .ok (.iaload, 1))
    (kk : W p l e R s m args below meth c H locs cells slots Q (F0 m (pc + 1) ls (.int (xs (k + j)) :: rest))) : W p l e R s m args below meth c H locs cells slots Q (F0 m pc ls (.int i :: .ref b :: rest)) := by
  subst hi
  refine va_sld C.1 C.2.1 hX hbl (Nat.not_le.mpr hbl) hS (vp_in_nI hk (by omega)) hdg ?_
  rw [nI_clamp (by omega)]
  exact kk
theorem lpC {M : Mem} {H : Heap} {U : State} {SA : Nat → Nat} (Z : LZ T D ad K am s M Mm H locs) (C : Cx T D p s m args c cc nL own) (hU : U.heap = H) (hW : s.WarmedH U.vm) : WrP EC T D ad (69 + K) M H.size U := ⟨by rw [hU], by rw [hU]; exact Z.1, C.2.warm hW, Z.2.2.1⟩
theorem lpM {M : Mem} {H : Heap} {U : State} (Z : LZ T D ad K am s Mc M H locs) (C : Cx T D p s m args c cc nL own) (hU : U.heap = H) (hW : s.WarmedH U.vm) : WrP EM T D am 16 M H.size U := ⟨by rw [hU], by rw [hU]; exact Z.2.1, C.2.warm hW, Z.2.2.2.1⟩
theorem lpX {M : Mem} {H : Heap} {U : State} {SA : Nat → Nat} (Z : LZ T D ad K am s M Mm H locs) (hXS : XS SA (fun q => s.heap.size ≤ q) s s.heap) (C : Cx T D p s m args c cc nL own) (hU : U.heap = H) (hW : s.WarmedH U.vm) : WxP SA EC T D ad (69 + K) M H.size U := ⟨⟨by rw [hU], by rw [hU]; exact Z.1, C.2.warm hW, Z.2.2.1⟩, hXS.go Z.2.2.2.2.2.2.2 (AA.ge Z.2.2.2.2.2.1 Z.2.2.2.2.2.2.2.1) hU hW⟩
theorem blT {SA : Nat → Nat} {K1 sz : Nat} {M : Mem} {av : List Value} : FrameBlind (va_Pc av (fun U => WxP SA EC T D ad K1 M sz U ∧ AOs U)) := fun a U g mk h => ⟨h.1, (blX a U g mk ⟨h.1, h.2.1⟩).2, h.2.2.call⟩
theorem rcC {M : Mem} {H : Heap} (Z : LZ T D ad K am s M Mm H locs) (C : Cx T D p s m args c cc nL own) : ∃ cellB : Cell, H[ad 0]? = some cellB ∧ cellB.vm.isStatics = false ∧ s.vm.findClass "OneOfTwo" = some cellB.cls := va_recv C.2.1 Z.1 (q0 := 0) (ci := 11) (q := (RX11, TX11, 11)) rfl (by rw [ws_at (by omega)]; rfl)
theorem rcM {M : Mem} {H : Heap} (Z : LZ T D ad K am s Mc M H locs) (C : Cx T D p s m args c cc nL own) : ∃ cellB : Cell, H[am 0]? = some cellB ∧ cellB.vm.isStatics = false ∧ s.vm.findClass "OneOfTwoModel" = some cellB.cls := va_recv C.2.1 Z.2.1 (q0 := 0) (ci := 12) (q := (RX12, TX12, 29)) rfl (by rw [ws_at (by omega)]; rfl)
end LAW1
def LO_0 (Inv : Nat → Nat → Mem → Mem → Prop) (n K : Nat) (Mc Mm : Mem) (a1 a2 a3 a4 a5 : Int32) : Prop :=
  P_X11_window K Mc a1 a2 (fun r Mc1 => P_X12_window Mm a1 a2 (fun r2 Mm1 => r = r2 ∧ Inv (n + 1) K Mc1 Mm1))
def LO_1 (Inv : Nat → Nat → Mem → Mem → Prop) (n K : Nat) (Mc Mm : Mem) (a1 a2 a3 a4 a5 : Int32) : Prop :=
  P_X11_cord K Mc a1 (fun r Mc1 => P_X12_cord Mm a1 (fun r2 Mm1 => r = r2 ∧ Inv (n + 1) K Mc1 Mm1))
def LO_2 (Inv : Nat → Nat → Mem → Mem → Prop) (n K : Nat) (Mc Mm : Mem) (a1 a2 a3 a4 a5 : Int32) : Prop :=
  P_X11_drop K Mc (fun r Mc1 => P_X12_drop Mm (fun r2 Mm1 => r = r2 ∧ Inv (n + 1) K Mc1 Mm1))
def LO_3 (Inv : Nat → Nat → Mem → Mem → Prop) (n K : Nat) (Mc Mm : Mem) (a1 a2 a3 a4 a5 : Int32) : Prop :=
  P_X11_ofWindow K Mc a1 a2 (fun r Mc1 => P_X12_ofWindow Mm a1 a2 (fun r2 Mm1 => r = r2 ∧ Inv (n + 1) K Mc1 Mm1))
def LO_4 (Inv : Nat → Nat → Mem → Mem → Prop) (n K : Nat) (Mc Mm : Mem) (a1 a2 a3 a4 a5 : Int32) : Prop :=
  P_X11_ofCord K Mc a1 a2 (fun r Mc1 => P_X12_ofCord Mm a1 a2 (fun r2 Mm1 => r = r2 ∧ Inv (n + 1) K Mc1 Mm1))
def LO_5 (Inv : Nat → Nat → Mem → Mem → Prop) (n K : Nat) (Mc Mm : Mem) (a1 a2 a3 a4 a5 : Int32) : Prop :=
  P_X11_open K Mc a1 a2 (fun r Mc1 => P_X12_open Mm a1 a2 (fun r2 Mm1 => r = r2 ∧ Inv (n + 1) K Mc1 Mm1))
def LO_6 (Inv : Nat → Nat → Mem → Mem → Prop) (n K : Nat) (Mc Mm : Mem) (a1 a2 a3 a4 a5 : Int32) : Prop :=
  P_X11_swell K Mc a1 a2 (fun r Mc1 => P_X12_swell Mm a1 a2 (fun r2 Mm1 => r = r2 ∧ Inv (n + 1) K Mc1 Mm1))
def LO_7 (Inv : Nat → Nat → Mem → Mem → Prop) (n K : Nat) (Mc Mm : Mem) (a1 a2 a3 a4 a5 : Int32) : Prop :=
  P_X11_pull K Mc a1 a2 (fun r Mc1 => P_X12_pull Mm a1 a2 (fun r2 Mm1 => r = r2 ∧ Inv (n + 1) K Mc1 Mm1))
def LO_8 (Inv : Nat → Nat → Mem → Mem → Prop) (n K : Nat) (Mc Mm : Mem) (a1 a2 a3 a4 a5 : Int32) : Prop :=
  P_X11_swap K Mc a1 a2 (fun r Mc1 => P_X12_swap Mm a1 a2 (fun r2 Mm1 => r = r2 ∧ Inv (n + 1) K Mc1 Mm1))
def LO_9 (Inv : Nat → Nat → Mem → Mem → Prop) (n K : Nat) (Mc Mm : Mem) (a1 a2 a3 a4 a5 : Int32) : Prop :=
  P_X11_air K Mc a1 (fun r Mc1 => P_X12_air Mm a1 (fun r2 Mm1 => r = r2 ∧ Inv (n + 1) K Mc1 Mm1))
def LO_10 (Inv : Nat → Nat → Mem → Mem → Prop) (n K : Nat) (Mc Mm : Mem) (a1 a2 a3 a4 a5 : Int32) : Prop :=
  P_X11_lodger K Mc a1 a2 (fun r Mc1 => P_X12_lodger Mm a1 a2 (fun r2 Mm1 => r = r2 ∧ Inv (n + 1) K Mc1 Mm1))
def LO_11 (Inv : Nat → Nat → Mem → Mem → Prop) (n K : Nat) (Mc Mm : Mem) (a1 a2 a3 a4 a5 : Int32) : Prop :=
  P_X11_ofLodger K Mc a1 a2 (fun r Mc1 => P_X12_ofLodger Mm a1 a2 (fun r2 Mm1 => r = r2 ∧ Inv (n + 1) K Mc1 Mm1))
def LO_12 (Inv : Nat → Nat → Mem → Mem → Prop) (n K : Nat) (Mc Mm : Mem) (a1 a2 a3 a4 a5 : Int32) : Prop :=
  P_X11_become K Mc a1 a2 (fun r Mc1 => P_X12_become Mm a1 a2 (fun r2 Mm1 => r = r2 ∧ Inv (n + 1) K Mc1 Mm1))
def LO_13 (Inv : Nat → Nat → Mem → Mem → Prop) (n K : Nat) (Mc Mm : Mem) (a1 a2 a3 a4 a5 : Int32) : Prop :=
  P_X11_as K Mc a1 a2 (fun r Mc1 => P_X12_as Mm a1 a2 (fun r2 Mm1 => r = r2 ∧ Inv (n + 1) K Mc1 Mm1))
def LO_14 (Inv : Nat → Nat → Mem → Mem → Prop) (n K : Nat) (Mc Mm : Mem) (a1 a2 a3 a4 a5 : Int32) : Prop :=
  P_X11_goes K Mc a1 a2 (fun r Mc1 => P_X12_goes Mm a1 a2 (fun r2 Mm1 => r = r2 ∧ Inv (n + 1) K Mc1 Mm1))
def LO_15 (Inv : Nat → Nat → Mem → Mem → Prop) (n K : Nat) (Mc Mm : Mem) (a1 a2 a3 a4 a5 : Int32) : Prop :=
  P_X11_content K Mc (fun r Mc1 => P_X12_content Mm (fun r2 Mm1 => r = r2 ∧ Inv (n + 1) K Mc1 Mm1))
def LO_16 (Inv : Nat → Nat → Mem → Mem → Prop) (n K : Nat) (Mc Mm : Mem) (a1 a2 a3 a4 a5 : Int32) : Prop :=
  P_X11_feed K Mc ((a1.toInt64 <<< ((32 : Int32).toInt64 &&& 63)) ||| (a2.toInt64 &&& 4294967295)) a3 (fun r Mc1 => P_X12_feed Mm ((a1.toInt64 <<< ((32 : Int32).toInt64 &&& 63)) ||| (a2.toInt64 &&& 4294967295)) a3 (fun r2 Mm1 => r = r2 ∧ Inv (n + 1) K Mc1 Mm1))
def LO_17 (Inv : Nat → Nat → Mem → Mem → Prop) (n K : Nat) (Mc Mm : Mem) (a1 a2 a3 a4 a5 : Int32) : Prop :=
  P_X11_text K Mc a1 (fun r K1 Mc1 => P_X12_text Mm a1 (fun r2 Mm1 => r = r2 ∧ Inv (n + 1) K1 Mc1 Mm1))
def LO_18 (Inv : Nat → Nat → Mem → Mem → Prop) (n K : Nat) (Mc Mm : Mem) (a1 a2 a3 a4 a5 : Int32) : Prop :=
  P_X11_law K Mc a1 a2 a3 a4 (fun r Mc1 => P_X12_law Mm a1 a2 a3 a4 (fun r2 Mm1 => r = r2 ∧ Inv (n + 1) K Mc1 Mm1))
def LO_19 (Inv : Nat → Nat → Mem → Mem → Prop) (n K : Nat) (Mc Mm : Mem) (a1 a2 a3 a4 a5 : Int32) : Prop :=
  P_X11_turn K Mc a1 (fun r Mc1 => P_X12_turn Mm a1 (fun r2 Mm1 => r = r2 ∧ Inv (n + 1) K Mc1 Mm1))
def LO_20 (Inv : Nat → Nat → Mem → Mem → Prop) (n K : Nat) (Mc Mm : Mem) (a1 a2 a3 a4 a5 : Int32) : Prop :=
  P_X11_hours K Mc a1 (fun r Mc1 => P_X12_hours Mm a1 (fun r2 Mm1 => r = r2 ∧ Inv (n + 1) K Mc1 Mm1))
def LO_21 (Inv : Nat → Nat → Mem → Mem → Prop) (n K : Nat) (Mc Mm : Mem) (a1 a2 a3 a4 a5 : Int32) : Prop :=
  P_X11_loose K Mc a1 (fun r Mc1 => P_X12_loose Mm a1 (fun r2 Mm1 => r = r2 ∧ Inv (n + 1) K Mc1 Mm1))
def LO_22 (Inv : Nat → Nat → Mem → Mem → Prop) (n K : Nat) (Mc Mm : Mem) (a1 a2 a3 a4 a5 : Int32) : Prop :=
  P_X11_hour K Mc a1 (fun r Mc1 => P_X12_hour Mm a1 (fun r2 Mm1 => r = r2 ∧ Inv (n + 1) K Mc1 Mm1))
def LO_23 (Inv : Nat → Nat → Mem → Mem → Prop) (n K : Nat) (Mc Mm : Mem) (a1 a2 a3 a4 a5 : Int32) : Prop :=
  P_X11_lock K Mc a1 a2 (fun r Mc1 => P_X12_lock Mm a1 a2 (fun r2 Mm1 => r = r2 ∧ Inv (n + 1) K Mc1 Mm1))
def LO_24 (Inv : Nat → Nat → Mem → Mem → Prop) (n K : Nat) (Mc Mm : Mem) (a1 a2 a3 a4 a5 : Int32) : Prop :=
  P_X11_rests K Mc (fun r Mc1 => P_X12_rests Mm (fun r2 Mm1 => r = r2 ∧ Inv (n + 1) K Mc1 Mm1))
def LO_25 (Inv : Nat → Nat → Mem → Mem → Prop) (n K : Nat) (Mc Mm : Mem) (a1 a2 a3 a4 a5 : Int32) : Prop :=
  P_X11_then K Mc a1 a2 (fun r Mc1 => P_X12_then Mm a1 a2 (fun r2 Mm1 => r = r2 ∧ Inv (n + 1) K Mc1 Mm1))
def LO_26 (Inv : Nat → Nat → Mem → Mem → Prop) (n K : Nat) (Mc Mm : Mem) (a1 a2 a3 a4 a5 : Int32) : Prop :=
  P_X11_standings K Mc (fun r => P_X12_standings Mm (fun r2 Mm1 => r = r2 ∧ Inv (n + 1) K Mc Mm1))
def LO_27 (Inv : Nat → Nat → Mem → Mem → Prop) (n K : Nat) (Mc Mm : Mem) (a1 a2 a3 a4 a5 : Int32) : Prop :=
  P_X11_fewest K Mc a1 (fun r Mc1 => P_X12_fewest Mm a1 (fun r2 Mm1 => r = r2 ∧ Inv (n + 1) K Mc1 Mm1))
def LO_28 (Inv : Nat → Nat → Mem → Mem → Prop) (n K : Nat) (Mc Mm : Mem) (a1 a2 a3 a4 a5 : Int32) : Prop :=
  P_X11_most K Mc a1 (fun r Mc1 => P_X12_most Mm a1 (fun r2 Mm1 => r = r2 ∧ Inv (n + 1) K Mc1 Mm1))
def LO_29 (Inv : Nat → Nat → Mem → Mem → Prop) (n K : Nat) (Mc Mm : Mem) (a1 a2 a3 a4 a5 : Int32) : Prop :=
  P_X11_helps K Mc a1 (fun r Mc1 => P_X12_helps Mm a1 (fun r2 Mm1 => r = r2 ∧ Inv (n + 1) K Mc1 Mm1))
def LO_30 (Inv : Nat → Nat → Mem → Mem → Prop) (n K : Nat) (Mc Mm : Mem) (a1 a2 a3 a4 a5 : Int32) : Prop :=
  P_X11_who K Mc a1 (fun r Mc1 => P_X12_who Mm a1 (fun r2 Mm1 => r = r2 ∧ Inv (n + 1) K Mc1 Mm1))
def LO_31 (Inv : Nat → Nat → Mem → Mem → Prop) (n K : Nat) (Mc Mm : Mem) (a1 a2 a3 a4 a5 : Int32) : Prop :=
  P_X11_seed K Mc a1 (fun r Mc1 => P_X12_seed Mm a1 (fun r2 Mm1 => r = r2 ∧ Inv (n + 1) K Mc1 Mm1))
def LO_32 (Inv : Nat → Nat → Mem → Mem → Prop) (n K : Nat) (Mc Mm : Mem) (a1 a2 a3 a4 a5 : Int32) : Prop :=
  P_X11_voice K Mc a1 a2 a3 (fun r Mc1 => P_X12_voice Mm a1 a2 a3 (fun r2 Mm1 => r = r2 ∧ Inv (n + 1) K Mc1 Mm1))
def LO_33 (Inv : Nat → Nat → Mem → Mem → Prop) (n K : Nat) (Mc Mm : Mem) (a1 a2 a3 a4 a5 : Int32) : Prop :=
  P_X11_trace K Mc a1 (fun r Mc1 => P_X12_trace Mm a1 (fun r2 Mm1 => r = r2 ∧ Inv (n + 1) K Mc1 Mm1))
def LO_34 (Inv : Nat → Nat → Mem → Mem → Prop) (n K : Nat) (Mc Mm : Mem) (a1 a2 a3 a4 a5 : Int32) : Prop :=
  P_X11_sheet K Mc a1 a2 a3 (fun r Mc1 => P_X12_sheet Mm a1 a2 a3 (fun r2 Mm1 => r = r2 ∧ Inv (n + 1) K Mc1 Mm1))
def LO_35 (Inv : Nat → Nat → Mem → Mem → Prop) (n K : Nat) (Mc Mm : Mem) (a1 a2 a3 a4 a5 : Int32) : Prop :=
  P_X11_put K Mc a1 a2 a3 (fun r Mc1 => P_X12_put Mm a1 a2 a3 (fun r2 Mm1 => r = r2 ∧ Inv (n + 1) K Mc1 Mm1))
def LO_36 (Inv : Nat → Nat → Mem → Mem → Prop) (n K : Nat) (Mc Mm : Mem) (a1 a2 a3 a4 a5 : Int32) : Prop :=
  P_X11_move K Mc a1 a2 a3 a4 a5 (fun r Mc1 => P_X12_move Mm a1 a2 a3 a4 a5 (fun r2 Mm1 => r = r2 ∧ Inv (n + 1) K Mc1 Mm1))
def LO_37 (Inv : Nat → Nat → Mem → Mem → Prop) (n K : Nat) (Mc Mm : Mem) (a1 a2 a3 a4 a5 : Int32) : Prop :=
  P_X11_judge K Mc a1 (fun r Mc1 => P_X12_judge Mm a1 (fun r2 Mm1 => r = r2 ∧ Inv (n + 1) K Mc1 Mm1))
def LO_38 (Inv : Nat → Nat → Mem → Mem → Prop) (n K : Nat) (Mc Mm : Mem) (a1 a2 a3 a4 a5 : Int32) : Prop :=
  P_X11_image K Mc (fun r Mc1 => P_X12_image Mm (fun r2 Mm1 => r = r2 ∧ Inv (n + 1) K Mc1 Mm1))
def LO_39 (Inv : Nat → Nat → Mem → Mem → Prop) (n K : Nat) (Mc Mm : Mem) (a1 a2 a3 a4 a5 : Int32) : Prop :=
  P_X11_restore K Mc (fun r Mc1 => P_X12_restore Mm (fun r2 Mm1 => r = r2 ∧ Inv (n + 1) K Mc1 Mm1))
def LO_40 (Inv : Nat → Nat → Mem → Mem → Prop) (n K : Nat) (Mc Mm : Mem) (a1 a2 a3 a4 a5 : Int32) : Prop :=
  P_X11_tell K Mc a1 (fun r Mc1 => P_X12_tell Mm a1 (fun r2 Mm1 => r = r2 ∧ Inv (n + 1) K Mc1 Mm1))
def LO_41 (Inv : Nat → Nat → Mem → Mem → Prop) (n K : Nat) (Mc Mm : Mem) (a1 a2 a3 a4 a5 : Int32) : Prop :=
  P_X11_check K Mc (fun r Mc1 => P_X12_check Mm (fun r2 Mm1 => r = r2 ∧ Inv (n + 1) K Mc1 Mm1))
def LO_42 (Inv : Nat → Nat → Mem → Mem → Prop) (n K : Nat) (Mc Mm : Mem) (a1 a2 a3 a4 a5 : Int32) : Prop :=
  P_X11_count K Mc a1 (fun r Mc1 => P_X12_count Mm a1 (fun r2 Mm1 => r = r2 ∧ Inv (n + 1) K Mc1 Mm1))
def LO_43 (Inv : Nat → Nat → Mem → Mem → Prop) (n K : Nat) (Mc Mm : Mem) (a1 a2 a3 a4 a5 : Int32) : Prop :=
  P_X11_told K Mc a1 (fun r Mc1 => P_X12_told Mm a1 (fun r2 Mm1 => r = r2 ∧ Inv (n + 1) K Mc1 Mm1))
def LOK (Inv : Nat → Nat → Mem → Mem → Prop) : Prop := ∀ (n K : Nat) (Mc Mm : Mem) (a1 a2 a3 a4 a5 : Int32), n < 512 → Inv n K Mc Mm → (Inv (n + 1) K Mc Mm) ∧ LO_0 Inv n K Mc Mm a1 a2 a3 a4 a5 ∧ LO_1 Inv n K Mc Mm a1 a2 a3 a4 a5 ∧ LO_2 Inv n K Mc Mm a1 a2 a3 a4 a5 ∧ LO_3 Inv n K Mc Mm a1 a2 a3 a4 a5 ∧ LO_4 Inv n K Mc Mm a1 a2 a3 a4 a5 ∧ LO_5 Inv n K Mc Mm a1 a2 a3 a4 a5 ∧ LO_6 Inv n K Mc Mm a1 a2 a3 a4 a5 ∧ LO_7 Inv n K Mc Mm a1 a2 a3 a4 a5 ∧ LO_8 Inv n K Mc Mm a1 a2 a3 a4 a5 ∧ LO_9 Inv n K Mc Mm a1 a2 a3 a4 a5 ∧ LO_10 Inv n K Mc Mm a1 a2 a3 a4 a5 ∧ LO_11 Inv n K Mc Mm a1 a2 a3 a4 a5 ∧ LO_12 Inv n K Mc Mm a1 a2 a3 a4 a5 ∧ LO_13 Inv n K Mc Mm a1 a2 a3 a4 a5 ∧ LO_14 Inv n K Mc Mm a1 a2 a3 a4 a5 ∧ LO_15 Inv n K Mc Mm a1 a2 a3 a4 a5 ∧ LO_16 Inv n K Mc Mm a1 a2 a3 a4 a5 ∧ LO_17 Inv n K Mc Mm a1 a2 a3 a4 a5 ∧ LO_18 Inv n K Mc Mm a1 a2 a3 a4 a5 ∧ LO_19 Inv n K Mc Mm a1 a2 a3 a4 a5 ∧ LO_20 Inv n K Mc Mm a1 a2 a3 a4 a5 ∧ LO_21 Inv n K Mc Mm a1 a2 a3 a4 a5 ∧ LO_22 Inv n K Mc Mm a1 a2 a3 a4 a5 ∧ LO_23 Inv n K Mc Mm a1 a2 a3 a4 a5 ∧ LO_24 Inv n K Mc Mm a1 a2 a3 a4 a5 ∧ LO_25 Inv n K Mc Mm a1 a2 a3 a4 a5 ∧ LO_26 Inv n K Mc Mm a1 a2 a3 a4 a5 ∧ LO_27 Inv n K Mc Mm a1 a2 a3 a4 a5 ∧ LO_28 Inv n K Mc Mm a1 a2 a3 a4 a5 ∧ LO_29 Inv n K Mc Mm a1 a2 a3 a4 a5 ∧ LO_30 Inv n K Mc Mm a1 a2 a3 a4 a5 ∧ LO_31 Inv n K Mc Mm a1 a2 a3 a4 a5 ∧ LO_32 Inv n K Mc Mm a1 a2 a3 a4 a5 ∧ LO_33 Inv n K Mc Mm a1 a2 a3 a4 a5 ∧ LO_34 Inv n K Mc Mm a1 a2 a3 a4 a5 ∧ LO_35 Inv n K Mc Mm a1 a2 a3 a4 a5 ∧ LO_36 Inv n K Mc Mm a1 a2 a3 a4 a5 ∧ LO_37 Inv n K Mc Mm a1 a2 a3 a4 a5 ∧ LO_38 Inv n K Mc Mm a1 a2 a3 a4 a5 ∧ LO_39 Inv n K Mc Mm a1 a2 a3 a4 a5 ∧ LO_40 Inv n K Mc Mm a1 a2 a3 a4 a5 ∧ LO_41 Inv n K Mc Mm a1 a2 a3 a4 a5 ∧ LO_42 Inv n K Mc Mm a1 a2 a3 a4 a5 ∧ LO_43 Inv n K Mc Mm a1 a2 a3 a4 a5
section LAW2
variable {p : Program} {l : Launch} {e : Env} {s : State} {m : MethodId} {args : Array Value} {below : List Frame} {meth : Method} {c : Code} {H : Heap} {locs : List Loc} {cells slots : Nat} {Q : State → Prop} {T : Nat → ClassId} {D : va_G} {ad am : Nat → Nat} {K n k b L : Nat} {Mc Mm : Mem} {xs : Nat → Int32} {SA : Nat → Nat} {Inv : Nat → Nat → Mem → Mem → Prop}
set_option maxRecDepth 100000 in
set_option maxHeartbeats 4000000 in
theorem lc_0 (C : Cx T D p s m args c code 4 "OneOfTwoLaw") (hX : va_X b L xs s s.heap) (hbl : b < s.heap.size) (hk : k + 6 ≤ L) (hL : L ≤ 3072) (Z : LZ T D ad K am s Mc Mm H locs) (hXS : XS SA (fun q => s.heap.size ≤ q) s s.heap) (hO : AOs s) {ls : Array Slot} (hl : lv_has ls 4 [(0, .ref b), (1, .ref (ad 0)), (2, .ref (am 0)), (3, .int (nI k))]) (hcells : cells + 3 ≤ room_1.cells) (hslots : slots + 107 ≤ room_1.slots) (hB : LO_0 Inv n K Mc Mm (xs (k + 1)) (xs (k + 2)) (xs (k + 3)) (xs (k + 4)) (xs (k + 5)))
    (kk : ∀ (K1 : Nat) (ad1 : Nat → Nat) (Mc1 Mm1 : Mem) (H : Heap) (locs : List Loc) (ls : Array Slot), Inv (n + 1) K1 Mc1 Mm1 → LZ T D ad1 K1 am s Mc1 Mm1 H locs → lv_has ls 4 [(0, .ref b), (1, .ref (ad1 0)), (2, .ref (am 0)), (3, .int (nI k))] → W p l e room_1 s m args below meth c H locs (cells + 3) (slots + 107) Q (F0 m 1476 ls [])) : W p l e room_1 s m args below meth c H locs cells slots Q (F0 m 224 ls []) := by
  have hx := C.x
  have hb := C.b
  have hcs : cells + 0 ≤ room_1.cells ∧ slots + 0 ≤ room_1.slots := ⟨Nat.le_trans (Nat.le_add_right _ _) hcells, Nat.le_trans (Nat.le_add_right _ _) hslots⟩
  delta LO_0 at hB
  refine lv_aload_n hx hb dL_law_224 rfl (lv_at hl 1 rfl) ?_
  refine lv_aload_n hx hb dL_law_225 rfl (lv_at hl 0 rfl) ?_
  refine lv_iload_n hx hb dL_law_226 rfl (lv_at hl 3 rfl) ?_
  refine lv_iconst (v := 1) hx hb dL_law_227 (by decide) ?_
  refine lv_iadd hx hb dL_law_228 ?_
  refine s_ld (k := k) (j := 1) C.1 hX hbl Z.2.2.2.2.2.2.2 (by omega) hL (nI_add k 1) dL_law_229 ?_
  refine lv_aload_n hx hb dL_law_230 rfl (lv_at hl 0 rfl) ?_
  refine lv_iload_n hx hb dL_law_231 rfl (lv_at hl 3 rfl) ?_
  refine lv_iconst (v := 2) hx hb dL_law_232 (by decide) ?_
  refine lv_iadd hx hb dL_law_233 ?_
  refine s_ld (k := k) (j := 2) C.1 hX hbl Z.2.2.2.2.2.2.2 (by omega) hL (nI_add k 2) dL_law_234 ?_
  refine lk_C (rn_V (n := 2) (As := [.int (xs (k + 1)), .int (xs (k + 2))]) (rest := []) (c_X11_window hB) rfl rfl tw_2_49 tw_2_47 tw_2_48 tw_1_1 ⟨rfl, by decide, by decide, by decide +kernel⟩ rfl blW (rcC Z C) (fun U hU hW => ⟨rfl, lpC (SA := SA) Z C hU hW⟩) C.1 hl.1 tw_2_46 ⟨(Nat.le_of_ble_eq_true rfl), (Nat.le_of_ble_eq_true rfl)⟩ hcs (Nat.le_of_ble_eq_true rfl) rfl dL_law_235) Z (fun r M1 H locs hB Z => ?_)
  refine lv_aload_n hx hb dL_law_238 rfl (lv_at hl 2 rfl) ?_
  refine lv_aload_n hx hb dL_law_239 rfl (lv_at hl 0 rfl) ?_
  refine lv_iload_n hx hb dL_law_240 rfl (lv_at hl 3 rfl) ?_
  refine lv_iconst (v := 1) hx hb dL_law_241 (by decide) ?_
  refine lv_iadd hx hb dL_law_242 ?_
  refine s_ld (k := k) (j := 1) C.1 hX hbl Z.2.2.2.2.2.2.2 (by omega) hL (nI_add k 1) dL_law_243 ?_
  refine lv_aload_n hx hb dL_law_244 rfl (lv_at hl 0 rfl) ?_
  refine lv_iload_n hx hb dL_law_245 rfl (lv_at hl 3 rfl) ?_
  refine lv_iconst (v := 2) hx hb dL_law_246 (by decide) ?_
  refine lv_iadd hx hb dL_law_247 ?_
  refine s_ld (k := k) (j := 2) C.1 hX hbl Z.2.2.2.2.2.2.2 (by omega) hL (nI_add k 2) dL_law_248 ?_
  refine lk_M (rn_V (n := 2) (As := [.int (xs (k + 1)), .int (xs (k + 2))]) (rest := [.int r]) (c_X12_window hB) rfl rfl tw_6_24 tw_6_22 tw_6_23 tw_1_12 ⟨rfl, by decide, by decide, by decide +kernel⟩ rfl blW (rcM Z C) (fun U hU hW => ⟨rfl, lpM Z C hU hW⟩) C.1 hl.1 tw_6_21 ⟨(Nat.le_of_ble_eq_true rfl), (Nat.le_of_ble_eq_true rfl)⟩ hcs (Nat.le_of_ble_eq_true rfl) rfl dL_law_249) Z (fun r2 M2 H locs hB Z => ?_)
  refine lv_icmp_eq (tgt := 1476) hx hb dL_law_252 (by decide) (fun _ => ?_) (fun q => absurd hB.1 q)
  refine W.widen (k := cells + 3) (n := slots + 107) (Nat.le_add_right _ _) (Nat.le_add_right _ _) ?_
  exact kk K ad M1 M2 H locs ls hB.2 Z hl
set_option maxRecDepth 100000 in
set_option maxHeartbeats 4000000 in
theorem lc_1 (C : Cx T D p s m args c code 4 "OneOfTwoLaw") (hX : va_X b L xs s s.heap) (hbl : b < s.heap.size) (hk : k + 6 ≤ L) (hL : L ≤ 3072) (Z : LZ T D ad K am s Mc Mm H locs) (hXS : XS SA (fun q => s.heap.size ≤ q) s s.heap) (hO : AOs s) {ls : Array Slot} (hl : lv_has ls 4 [(0, .ref b), (1, .ref (ad 0)), (2, .ref (am 0)), (3, .int (nI k))]) (hcells : cells + 3 ≤ room_1.cells) (hslots : slots + 107 ≤ room_1.slots) (hB : LO_1 Inv n K Mc Mm (xs (k + 1)) (xs (k + 2)) (xs (k + 3)) (xs (k + 4)) (xs (k + 5)))
    (kk : ∀ (K1 : Nat) (ad1 : Nat → Nat) (Mc1 Mm1 : Mem) (H : Heap) (locs : List Loc) (ls : Array Slot), Inv (n + 1) K1 Mc1 Mm1 → LZ T D ad1 K1 am s Mc1 Mm1 H locs → lv_has ls 4 [(0, .ref b), (1, .ref (ad1 0)), (2, .ref (am 0)), (3, .int (nI k))] → W p l e room_1 s m args below meth c H locs (cells + 3) (slots + 107) Q (F0 m 1476 ls [])) : W p l e room_1 s m args below meth c H locs cells slots Q (F0 m 257 ls []) := by
  have hx := C.x
  have hb := C.b
  have hcs : cells + 0 ≤ room_1.cells ∧ slots + 0 ≤ room_1.slots := ⟨Nat.le_trans (Nat.le_add_right _ _) hcells, Nat.le_trans (Nat.le_add_right _ _) hslots⟩
  delta LO_1 at hB
  refine lv_aload_n hx hb dL_law_257 rfl (lv_at hl 1 rfl) ?_
  refine lv_aload_n hx hb dL_law_258 rfl (lv_at hl 0 rfl) ?_
  refine lv_iload_n hx hb dL_law_259 rfl (lv_at hl 3 rfl) ?_
  refine lv_iconst (v := 1) hx hb dL_law_260 (by decide) ?_
  refine lv_iadd hx hb dL_law_261 ?_
  refine s_ld (k := k) (j := 1) C.1 hX hbl Z.2.2.2.2.2.2.2 (by omega) hL (nI_add k 1) dL_law_262 ?_
  refine lk_C (rn_V (n := 1) (As := [.int (xs (k + 1))]) (rest := []) (c_X11_cord hB) rfl rfl tw_2_68 tw_2_66 tw_2_67 tw_1_1 ⟨rfl, by decide, by decide, by decide +kernel⟩ rfl blW (rcC Z C) (fun U hU hW => ⟨rfl, lpC (SA := SA) Z C hU hW⟩) C.1 hl.1 tw_2_65 ⟨(Nat.le_of_ble_eq_true rfl), (Nat.le_of_ble_eq_true rfl)⟩ hcs (Nat.le_of_ble_eq_true rfl) rfl dL_law_263) Z (fun r M1 H locs hB Z => ?_)
  refine lv_aload_n hx hb dL_law_266 rfl (lv_at hl 2 rfl) ?_
  refine lv_aload_n hx hb dL_law_267 rfl (lv_at hl 0 rfl) ?_
  refine lv_iload_n hx hb dL_law_268 rfl (lv_at hl 3 rfl) ?_
  refine lv_iconst (v := 1) hx hb dL_law_269 (by decide) ?_
  refine lv_iadd hx hb dL_law_270 ?_
  refine s_ld (k := k) (j := 1) C.1 hX hbl Z.2.2.2.2.2.2.2 (by omega) hL (nI_add k 1) dL_law_271 ?_
  refine lk_M (rn_V (n := 1) (As := [.int (xs (k + 1))]) (rest := [.int r]) (c_X12_cord hB) rfl rfl tw_6_33 tw_6_31 tw_6_32 tw_1_12 ⟨rfl, by decide, by decide, by decide +kernel⟩ rfl blW (rcM Z C) (fun U hU hW => ⟨rfl, lpM Z C hU hW⟩) C.1 hl.1 tw_6_30 ⟨(Nat.le_of_ble_eq_true rfl), (Nat.le_of_ble_eq_true rfl)⟩ hcs (Nat.le_of_ble_eq_true rfl) rfl dL_law_272) Z (fun r2 M2 H locs hB Z => ?_)
  refine lv_icmp_eq (tgt := 1476) hx hb dL_law_275 (by decide) (fun _ => ?_) (fun q => absurd hB.1 q)
  refine W.widen (k := cells + 3) (n := slots + 107) (Nat.le_add_right _ _) (Nat.le_add_right _ _) ?_
  exact kk K ad M1 M2 H locs ls hB.2 Z hl
set_option maxRecDepth 100000 in
set_option maxHeartbeats 4000000 in
theorem lc_2 (C : Cx T D p s m args c code 4 "OneOfTwoLaw") (hX : va_X b L xs s s.heap) (hbl : b < s.heap.size) (hk : k + 6 ≤ L) (hL : L ≤ 3072) (Z : LZ T D ad K am s Mc Mm H locs) (hXS : XS SA (fun q => s.heap.size ≤ q) s s.heap) (hO : AOs s) {ls : Array Slot} (hl : lv_has ls 4 [(0, .ref b), (1, .ref (ad 0)), (2, .ref (am 0)), (3, .int (nI k))]) (hcells : cells + 3 ≤ room_1.cells) (hslots : slots + 107 ≤ room_1.slots) (hB : LO_2 Inv n K Mc Mm (xs (k + 1)) (xs (k + 2)) (xs (k + 3)) (xs (k + 4)) (xs (k + 5)))
    (kk : ∀ (K1 : Nat) (ad1 : Nat → Nat) (Mc1 Mm1 : Mem) (H : Heap) (locs : List Loc) (ls : Array Slot), Inv (n + 1) K1 Mc1 Mm1 → LZ T D ad1 K1 am s Mc1 Mm1 H locs → lv_has ls 4 [(0, .ref b), (1, .ref (ad1 0)), (2, .ref (am 0)), (3, .int (nI k))] → W p l e room_1 s m args below meth c H locs (cells + 3) (slots + 107) Q (F0 m 1476 ls [])) : W p l e room_1 s m args below meth c H locs cells slots Q (F0 m 280 ls []) := by
  have hx := C.x
  have hb := C.b
  have hcs : cells + 0 ≤ room_1.cells ∧ slots + 0 ≤ room_1.slots := ⟨Nat.le_trans (Nat.le_add_right _ _) hcells, Nat.le_trans (Nat.le_add_right _ _) hslots⟩
  delta LO_2 at hB
  refine lv_aload_n hx hb dL_law_280 rfl (lv_at hl 1 rfl) ?_
  refine lk_C (rn_V (n := 0) (As := []) (rest := []) (c_X11_drop hB) rfl rfl tw_2_86 tw_2_84 tw_2_85 tw_1_1 ⟨rfl, by decide, by decide, by decide +kernel⟩ rfl blW (rcC Z C) (fun U hU hW => ⟨rfl, lpC (SA := SA) Z C hU hW⟩) C.1 hl.1 tw_2_83 ⟨(Nat.le_of_ble_eq_true rfl), (Nat.le_of_ble_eq_true rfl)⟩ hcs (Nat.le_of_ble_eq_true rfl) rfl dL_law_281) Z (fun r M1 H locs hB Z => ?_)
  refine lv_aload_n hx hb dL_law_284 rfl (lv_at hl 2 rfl) ?_
  refine lk_M (rn_V (n := 0) (As := []) (rest := [.int r]) (c_X12_drop hB) rfl rfl tw_6_46 tw_6_44 tw_6_45 tw_1_12 ⟨rfl, by decide, by decide, by decide +kernel⟩ rfl blW (rcM Z C) (fun U hU hW => ⟨rfl, lpM Z C hU hW⟩) C.1 hl.1 tw_6_43 ⟨(Nat.le_of_ble_eq_true rfl), (Nat.le_of_ble_eq_true rfl)⟩ hcs (Nat.le_of_ble_eq_true rfl) rfl dL_law_285) Z (fun r2 M2 H locs hB Z => ?_)
  refine lv_icmp_eq (tgt := 1476) hx hb dL_law_288 (by decide) (fun _ => ?_) (fun q => absurd hB.1 q)
  refine W.widen (k := cells + 3) (n := slots + 107) (Nat.le_add_right _ _) (Nat.le_add_right _ _) ?_
  exact kk K ad M1 M2 H locs ls hB.2 Z hl
set_option maxRecDepth 100000 in
set_option maxHeartbeats 4000000 in
theorem lc_3 (C : Cx T D p s m args c code 4 "OneOfTwoLaw") (hX : va_X b L xs s s.heap) (hbl : b < s.heap.size) (hk : k + 6 ≤ L) (hL : L ≤ 3072) (Z : LZ T D ad K am s Mc Mm H locs) (hXS : XS SA (fun q => s.heap.size ≤ q) s s.heap) (hO : AOs s) {ls : Array Slot} (hl : lv_has ls 4 [(0, .ref b), (1, .ref (ad 0)), (2, .ref (am 0)), (3, .int (nI k))]) (hcells : cells + 3 ≤ room_1.cells) (hslots : slots + 107 ≤ room_1.slots) (hB : LO_3 Inv n K Mc Mm (xs (k + 1)) (xs (k + 2)) (xs (k + 3)) (xs (k + 4)) (xs (k + 5)))
    (kk : ∀ (K1 : Nat) (ad1 : Nat → Nat) (Mc1 Mm1 : Mem) (H : Heap) (locs : List Loc) (ls : Array Slot), Inv (n + 1) K1 Mc1 Mm1 → LZ T D ad1 K1 am s Mc1 Mm1 H locs → lv_has ls 4 [(0, .ref b), (1, .ref (ad1 0)), (2, .ref (am 0)), (3, .int (nI k))] → W p l e room_1 s m args below meth c H locs (cells + 3) (slots + 107) Q (F0 m 1476 ls [])) : W p l e room_1 s m args below meth c H locs cells slots Q (F0 m 293 ls []) := by
  have hx := C.x
  have hb := C.b
  have hcs : cells + 0 ≤ room_1.cells ∧ slots + 0 ≤ room_1.slots := ⟨Nat.le_trans (Nat.le_add_right _ _) hcells, Nat.le_trans (Nat.le_add_right _ _) hslots⟩
  delta LO_3 at hB
  refine lv_aload_n hx hb dL_law_293 rfl (lv_at hl 1 rfl) ?_
  refine lv_aload_n hx hb dL_law_294 rfl (lv_at hl 0 rfl) ?_
  refine lv_iload_n hx hb dL_law_295 rfl (lv_at hl 3 rfl) ?_
  refine lv_iconst (v := 1) hx hb dL_law_296 (by decide) ?_
  refine lv_iadd hx hb dL_law_297 ?_
  refine s_ld (k := k) (j := 1) C.1 hX hbl Z.2.2.2.2.2.2.2 (by omega) hL (nI_add k 1) dL_law_298 ?_
  refine lv_aload_n hx hb dL_law_299 rfl (lv_at hl 0 rfl) ?_
  refine lv_iload_n hx hb dL_law_300 rfl (lv_at hl 3 rfl) ?_
  refine lv_iconst (v := 2) hx hb dL_law_301 (by decide) ?_
  refine lv_iadd hx hb dL_law_302 ?_
  refine s_ld (k := k) (j := 2) C.1 hX hbl Z.2.2.2.2.2.2.2 (by omega) hL (nI_add k 2) dL_law_303 ?_
  refine lk_C (rn_V (n := 2) (As := [.int (xs (k + 1)), .int (xs (k + 2))]) (rest := []) (c_X11_ofWindow hB) rfl rfl tw_2_94 tw_2_92 tw_2_93 tw_1_1 ⟨rfl, by decide, by decide, by decide +kernel⟩ rfl blW (rcC Z C) (fun U hU hW => ⟨rfl, lpC (SA := SA) Z C hU hW⟩) C.1 hl.1 tw_2_91 ⟨(Nat.le_of_ble_eq_true rfl), (Nat.le_of_ble_eq_true rfl)⟩ hcs (Nat.le_of_ble_eq_true rfl) rfl dL_law_304) Z (fun r M1 H locs hB Z => ?_)
  refine lv_aload_n hx hb dL_law_307 rfl (lv_at hl 2 rfl) ?_
  refine lv_aload_n hx hb dL_law_308 rfl (lv_at hl 0 rfl) ?_
  refine lv_iload_n hx hb dL_law_309 rfl (lv_at hl 3 rfl) ?_
  refine lv_iconst (v := 1) hx hb dL_law_310 (by decide) ?_
  refine lv_iadd hx hb dL_law_311 ?_
  refine s_ld (k := k) (j := 1) C.1 hX hbl Z.2.2.2.2.2.2.2 (by omega) hL (nI_add k 1) dL_law_312 ?_
  refine lv_aload_n hx hb dL_law_313 rfl (lv_at hl 0 rfl) ?_
  refine lv_iload_n hx hb dL_law_314 rfl (lv_at hl 3 rfl) ?_
  refine lv_iconst (v := 2) hx hb dL_law_315 (by decide) ?_
  refine lv_iadd hx hb dL_law_316 ?_
  refine s_ld (k := k) (j := 2) C.1 hX hbl Z.2.2.2.2.2.2.2 (by omega) hL (nI_add k 2) dL_law_317 ?_
  refine lk_M (rn_V (n := 2) (As := [.int (xs (k + 1)), .int (xs (k + 2))]) (rest := [.int r]) (c_X12_ofWindow hB) rfl rfl tw_6_50 tw_6_48 tw_6_49 tw_1_12 ⟨rfl, by decide, by decide, by decide +kernel⟩ rfl blW (rcM Z C) (fun U hU hW => ⟨rfl, lpM Z C hU hW⟩) C.1 hl.1 tw_6_47 ⟨(Nat.le_of_ble_eq_true rfl), (Nat.le_of_ble_eq_true rfl)⟩ hcs (Nat.le_of_ble_eq_true rfl) rfl dL_law_318) Z (fun r2 M2 H locs hB Z => ?_)
  refine lv_icmp_eq (tgt := 1476) hx hb dL_law_321 (by decide) (fun _ => ?_) (fun q => absurd hB.1 q)
  refine W.widen (k := cells + 3) (n := slots + 107) (Nat.le_add_right _ _) (Nat.le_add_right _ _) ?_
  exact kk K ad M1 M2 H locs ls hB.2 Z hl
set_option maxRecDepth 100000 in
set_option maxHeartbeats 4000000 in
theorem lc_4 (C : Cx T D p s m args c code 4 "OneOfTwoLaw") (hX : va_X b L xs s s.heap) (hbl : b < s.heap.size) (hk : k + 6 ≤ L) (hL : L ≤ 3072) (Z : LZ T D ad K am s Mc Mm H locs) (hXS : XS SA (fun q => s.heap.size ≤ q) s s.heap) (hO : AOs s) {ls : Array Slot} (hl : lv_has ls 4 [(0, .ref b), (1, .ref (ad 0)), (2, .ref (am 0)), (3, .int (nI k))]) (hcells : cells + 3 ≤ room_1.cells) (hslots : slots + 107 ≤ room_1.slots) (hB : LO_4 Inv n K Mc Mm (xs (k + 1)) (xs (k + 2)) (xs (k + 3)) (xs (k + 4)) (xs (k + 5)))
    (kk : ∀ (K1 : Nat) (ad1 : Nat → Nat) (Mc1 Mm1 : Mem) (H : Heap) (locs : List Loc) (ls : Array Slot), Inv (n + 1) K1 Mc1 Mm1 → LZ T D ad1 K1 am s Mc1 Mm1 H locs → lv_has ls 4 [(0, .ref b), (1, .ref (ad1 0)), (2, .ref (am 0)), (3, .int (nI k))] → W p l e room_1 s m args below meth c H locs (cells + 3) (slots + 107) Q (F0 m 1476 ls [])) : W p l e room_1 s m args below meth c H locs cells slots Q (F0 m 326 ls []) := by
  have hx := C.x
  have hb := C.b
  have hcs : cells + 0 ≤ room_1.cells ∧ slots + 0 ≤ room_1.slots := ⟨Nat.le_trans (Nat.le_add_right _ _) hcells, Nat.le_trans (Nat.le_add_right _ _) hslots⟩
  delta LO_4 at hB
  refine lv_aload_n hx hb dL_law_326 rfl (lv_at hl 1 rfl) ?_
  refine lv_aload_n hx hb dL_law_327 rfl (lv_at hl 0 rfl) ?_
  refine lv_iload_n hx hb dL_law_328 rfl (lv_at hl 3 rfl) ?_
  refine lv_iconst (v := 1) hx hb dL_law_329 (by decide) ?_
  refine lv_iadd hx hb dL_law_330 ?_
  refine s_ld (k := k) (j := 1) C.1 hX hbl Z.2.2.2.2.2.2.2 (by omega) hL (nI_add k 1) dL_law_331 ?_
  refine lv_aload_n hx hb dL_law_332 rfl (lv_at hl 0 rfl) ?_
  refine lv_iload_n hx hb dL_law_333 rfl (lv_at hl 3 rfl) ?_
  refine lv_iconst (v := 2) hx hb dL_law_334 (by decide) ?_
  refine lv_iadd hx hb dL_law_335 ?_
  refine s_ld (k := k) (j := 2) C.1 hX hbl Z.2.2.2.2.2.2.2 (by omega) hL (nI_add k 2) dL_law_336 ?_
  refine lk_C (rn_V (n := 2) (As := [.int (xs (k + 1)), .int (xs (k + 2))]) (rest := []) (c_X11_ofCord hB) rfl rfl tw_2_102 tw_2_100 tw_2_101 tw_1_1 ⟨rfl, by decide, by decide, by decide +kernel⟩ rfl blW (rcC Z C) (fun U hU hW => ⟨rfl, lpC (SA := SA) Z C hU hW⟩) C.1 hl.1 tw_2_99 ⟨(Nat.le_of_ble_eq_true rfl), (Nat.le_of_ble_eq_true rfl)⟩ hcs (Nat.le_of_ble_eq_true rfl) rfl dL_law_337) Z (fun r M1 H locs hB Z => ?_)
  refine lv_aload_n hx hb dL_law_340 rfl (lv_at hl 2 rfl) ?_
  refine lv_aload_n hx hb dL_law_341 rfl (lv_at hl 0 rfl) ?_
  refine lv_iload_n hx hb dL_law_342 rfl (lv_at hl 3 rfl) ?_
  refine lv_iconst (v := 1) hx hb dL_law_343 (by decide) ?_
  refine lv_iadd hx hb dL_law_344 ?_
  refine s_ld (k := k) (j := 1) C.1 hX hbl Z.2.2.2.2.2.2.2 (by omega) hL (nI_add k 1) dL_law_345 ?_
  refine lv_aload_n hx hb dL_law_346 rfl (lv_at hl 0 rfl) ?_
  refine lv_iload_n hx hb dL_law_347 rfl (lv_at hl 3 rfl) ?_
  refine lv_iconst (v := 2) hx hb dL_law_348 (by decide) ?_
  refine lv_iadd hx hb dL_law_349 ?_
  refine s_ld (k := k) (j := 2) C.1 hX hbl Z.2.2.2.2.2.2.2 (by omega) hL (nI_add k 2) dL_law_350 ?_
  refine lk_M (rn_V (n := 2) (As := [.int (xs (k + 1)), .int (xs (k + 2))]) (rest := [.int r]) (c_X12_ofCord hB) rfl rfl tw_6_58 tw_6_56 tw_6_57 tw_1_12 ⟨rfl, by decide, by decide, by decide +kernel⟩ rfl blW (rcM Z C) (fun U hU hW => ⟨rfl, lpM Z C hU hW⟩) C.1 hl.1 tw_6_55 ⟨(Nat.le_of_ble_eq_true rfl), (Nat.le_of_ble_eq_true rfl)⟩ hcs (Nat.le_of_ble_eq_true rfl) rfl dL_law_351) Z (fun r2 M2 H locs hB Z => ?_)
  refine lv_icmp_eq (tgt := 1476) hx hb dL_law_354 (by decide) (fun _ => ?_) (fun q => absurd hB.1 q)
  refine W.widen (k := cells + 3) (n := slots + 107) (Nat.le_add_right _ _) (Nat.le_add_right _ _) ?_
  exact kk K ad M1 M2 H locs ls hB.2 Z hl
set_option maxRecDepth 100000 in
set_option maxHeartbeats 4000000 in
theorem lc_5 (C : Cx T D p s m args c code 4 "OneOfTwoLaw") (hX : va_X b L xs s s.heap) (hbl : b < s.heap.size) (hk : k + 6 ≤ L) (hL : L ≤ 3072) (Z : LZ T D ad K am s Mc Mm H locs) (hXS : XS SA (fun q => s.heap.size ≤ q) s s.heap) (hO : AOs s) {ls : Array Slot} (hl : lv_has ls 4 [(0, .ref b), (1, .ref (ad 0)), (2, .ref (am 0)), (3, .int (nI k))]) (hcells : cells + 3 ≤ room_1.cells) (hslots : slots + 107 ≤ room_1.slots) (hB : LO_5 Inv n K Mc Mm (xs (k + 1)) (xs (k + 2)) (xs (k + 3)) (xs (k + 4)) (xs (k + 5)))
    (kk : ∀ (K1 : Nat) (ad1 : Nat → Nat) (Mc1 Mm1 : Mem) (H : Heap) (locs : List Loc) (ls : Array Slot), Inv (n + 1) K1 Mc1 Mm1 → LZ T D ad1 K1 am s Mc1 Mm1 H locs → lv_has ls 4 [(0, .ref b), (1, .ref (ad1 0)), (2, .ref (am 0)), (3, .int (nI k))] → W p l e room_1 s m args below meth c H locs (cells + 3) (slots + 107) Q (F0 m 1476 ls [])) : W p l e room_1 s m args below meth c H locs cells slots Q (F0 m 359 ls []) := by
  have hx := C.x
  have hb := C.b
  have hcs : cells + 0 ≤ room_1.cells ∧ slots + 0 ≤ room_1.slots := ⟨Nat.le_trans (Nat.le_add_right _ _) hcells, Nat.le_trans (Nat.le_add_right _ _) hslots⟩
  delta LO_5 at hB
  refine lv_aload_n hx hb dL_law_359 rfl (lv_at hl 1 rfl) ?_
  refine lv_aload_n hx hb dL_law_360 rfl (lv_at hl 0 rfl) ?_
  refine lv_iload_n hx hb dL_law_361 rfl (lv_at hl 3 rfl) ?_
  refine lv_iconst (v := 1) hx hb dL_law_362 (by decide) ?_
  refine lv_iadd hx hb dL_law_363 ?_
  refine s_ld (k := k) (j := 1) C.1 hX hbl Z.2.2.2.2.2.2.2 (by omega) hL (nI_add k 1) dL_law_364 ?_
  refine lv_aload_n hx hb dL_law_365 rfl (lv_at hl 0 rfl) ?_
  refine lv_iload_n hx hb dL_law_366 rfl (lv_at hl 3 rfl) ?_
  refine lv_iconst (v := 2) hx hb dL_law_367 (by decide) ?_
  refine lv_iadd hx hb dL_law_368 ?_
  refine s_ld (k := k) (j := 2) C.1 hX hbl Z.2.2.2.2.2.2.2 (by omega) hL (nI_add k 2) dL_law_369 ?_
  refine lk_C (rn_V (n := 2) (As := [.int (xs (k + 1)), .int (xs (k + 2))]) (rest := []) (c_X11_open hB) rfl rfl tw_2_114 tw_2_112 tw_2_113 tw_1_1 ⟨rfl, by decide, by decide, by decide +kernel⟩ rfl blW (rcC Z C) (fun U hU hW => ⟨rfl, lpC (SA := SA) Z C hU hW⟩) C.1 hl.1 tw_2_111 ⟨(Nat.le_of_ble_eq_true rfl), (Nat.le_of_ble_eq_true rfl)⟩ hcs (Nat.le_of_ble_eq_true rfl) rfl dL_law_370) Z (fun r M1 H locs hB Z => ?_)
  refine lv_aload_n hx hb dL_law_373 rfl (lv_at hl 2 rfl) ?_
  refine lv_aload_n hx hb dL_law_374 rfl (lv_at hl 0 rfl) ?_
  refine lv_iload_n hx hb dL_law_375 rfl (lv_at hl 3 rfl) ?_
  refine lv_iconst (v := 1) hx hb dL_law_376 (by decide) ?_
  refine lv_iadd hx hb dL_law_377 ?_
  refine s_ld (k := k) (j := 1) C.1 hX hbl Z.2.2.2.2.2.2.2 (by omega) hL (nI_add k 1) dL_law_378 ?_
  refine lv_aload_n hx hb dL_law_379 rfl (lv_at hl 0 rfl) ?_
  refine lv_iload_n hx hb dL_law_380 rfl (lv_at hl 3 rfl) ?_
  refine lv_iconst (v := 2) hx hb dL_law_381 (by decide) ?_
  refine lv_iadd hx hb dL_law_382 ?_
  refine s_ld (k := k) (j := 2) C.1 hX hbl Z.2.2.2.2.2.2.2 (by omega) hL (nI_add k 2) dL_law_383 ?_
  refine lk_M (rn_V (n := 2) (As := [.int (xs (k + 1)), .int (xs (k + 2))]) (rest := [.int r]) (c_X12_open hB) rfl rfl tw_6_70 tw_6_68 tw_6_69 tw_1_12 ⟨rfl, by decide, by decide, by decide +kernel⟩ rfl blW (rcM Z C) (fun U hU hW => ⟨rfl, lpM Z C hU hW⟩) C.1 hl.1 tw_6_67 ⟨(Nat.le_of_ble_eq_true rfl), (Nat.le_of_ble_eq_true rfl)⟩ hcs (Nat.le_of_ble_eq_true rfl) rfl dL_law_384) Z (fun r2 M2 H locs hB Z => ?_)
  refine lv_icmp_eq (tgt := 1476) hx hb dL_law_387 (by decide) (fun _ => ?_) (fun q => absurd hB.1 q)
  refine W.widen (k := cells + 3) (n := slots + 107) (Nat.le_add_right _ _) (Nat.le_add_right _ _) ?_
  exact kk K ad M1 M2 H locs ls hB.2 Z hl
set_option maxRecDepth 100000 in
set_option maxHeartbeats 4000000 in
theorem lc_6 (C : Cx T D p s m args c code 4 "OneOfTwoLaw") (hX : va_X b L xs s s.heap) (hbl : b < s.heap.size) (hk : k + 6 ≤ L) (hL : L ≤ 3072) (Z : LZ T D ad K am s Mc Mm H locs) (hXS : XS SA (fun q => s.heap.size ≤ q) s s.heap) (hO : AOs s) {ls : Array Slot} (hl : lv_has ls 4 [(0, .ref b), (1, .ref (ad 0)), (2, .ref (am 0)), (3, .int (nI k))]) (hcells : cells + 3 ≤ room_1.cells) (hslots : slots + 107 ≤ room_1.slots) (hB : LO_6 Inv n K Mc Mm (xs (k + 1)) (xs (k + 2)) (xs (k + 3)) (xs (k + 4)) (xs (k + 5)))
    (kk : ∀ (K1 : Nat) (ad1 : Nat → Nat) (Mc1 Mm1 : Mem) (H : Heap) (locs : List Loc) (ls : Array Slot), Inv (n + 1) K1 Mc1 Mm1 → LZ T D ad1 K1 am s Mc1 Mm1 H locs → lv_has ls 4 [(0, .ref b), (1, .ref (ad1 0)), (2, .ref (am 0)), (3, .int (nI k))] → W p l e room_1 s m args below meth c H locs (cells + 3) (slots + 107) Q (F0 m 1476 ls [])) : W p l e room_1 s m args below meth c H locs cells slots Q (F0 m 392 ls []) := by
  have hx := C.x
  have hb := C.b
  have hcs : cells + 0 ≤ room_1.cells ∧ slots + 0 ≤ room_1.slots := ⟨Nat.le_trans (Nat.le_add_right _ _) hcells, Nat.le_trans (Nat.le_add_right _ _) hslots⟩
  delta LO_6 at hB
  refine lv_aload_n hx hb dL_law_392 rfl (lv_at hl 1 rfl) ?_
  refine lv_aload_n hx hb dL_law_393 rfl (lv_at hl 0 rfl) ?_
  refine lv_iload_n hx hb dL_law_394 rfl (lv_at hl 3 rfl) ?_
  refine lv_iconst (v := 1) hx hb dL_law_395 (by decide) ?_
  refine lv_iadd hx hb dL_law_396 ?_
  refine s_ld (k := k) (j := 1) C.1 hX hbl Z.2.2.2.2.2.2.2 (by omega) hL (nI_add k 1) dL_law_397 ?_
  refine lv_aload_n hx hb dL_law_398 rfl (lv_at hl 0 rfl) ?_
  refine lv_iload_n hx hb dL_law_399 rfl (lv_at hl 3 rfl) ?_
  refine lv_iconst (v := 2) hx hb dL_law_400 (by decide) ?_
  refine lv_iadd hx hb dL_law_401 ?_
  refine s_ld (k := k) (j := 2) C.1 hX hbl Z.2.2.2.2.2.2.2 (by omega) hL (nI_add k 2) dL_law_402 ?_
  refine lk_C (rn_V (n := 2) (As := [.int (xs (k + 1)), .int (xs (k + 2))]) (rest := []) (c_X11_swell hB) rfl rfl tw_2_118 tw_2_116 tw_2_117 tw_1_1 ⟨rfl, by decide, by decide, by decide +kernel⟩ rfl blW (rcC Z C) (fun U hU hW => ⟨rfl, lpC (SA := SA) Z C hU hW⟩) C.1 hl.1 tw_2_115 ⟨(Nat.le_of_ble_eq_true rfl), (Nat.le_of_ble_eq_true rfl)⟩ hcs (Nat.le_of_ble_eq_true rfl) rfl dL_law_403) Z (fun r M1 H locs hB Z => ?_)
  refine lv_aload_n hx hb dL_law_406 rfl (lv_at hl 2 rfl) ?_
  refine lv_aload_n hx hb dL_law_407 rfl (lv_at hl 0 rfl) ?_
  refine lv_iload_n hx hb dL_law_408 rfl (lv_at hl 3 rfl) ?_
  refine lv_iconst (v := 1) hx hb dL_law_409 (by decide) ?_
  refine lv_iadd hx hb dL_law_410 ?_
  refine s_ld (k := k) (j := 1) C.1 hX hbl Z.2.2.2.2.2.2.2 (by omega) hL (nI_add k 1) dL_law_411 ?_
  refine lv_aload_n hx hb dL_law_412 rfl (lv_at hl 0 rfl) ?_
  refine lv_iload_n hx hb dL_law_413 rfl (lv_at hl 3 rfl) ?_
  refine lv_iconst (v := 2) hx hb dL_law_414 (by decide) ?_
  refine lv_iadd hx hb dL_law_415 ?_
  refine s_ld (k := k) (j := 2) C.1 hX hbl Z.2.2.2.2.2.2.2 (by omega) hL (nI_add k 2) dL_law_416 ?_
  refine lk_M (rn_V (n := 2) (As := [.int (xs (k + 1)), .int (xs (k + 2))]) (rest := [.int r]) (c_X12_swell hB) rfl rfl tw_6_74 tw_6_72 tw_6_73 tw_1_12 ⟨rfl, by decide, by decide, by decide +kernel⟩ rfl blW (rcM Z C) (fun U hU hW => ⟨rfl, lpM Z C hU hW⟩) C.1 hl.1 tw_6_71 ⟨(Nat.le_of_ble_eq_true rfl), (Nat.le_of_ble_eq_true rfl)⟩ hcs (Nat.le_of_ble_eq_true rfl) rfl dL_law_417) Z (fun r2 M2 H locs hB Z => ?_)
  refine lv_icmp_eq (tgt := 1476) hx hb dL_law_420 (by decide) (fun _ => ?_) (fun q => absurd hB.1 q)
  refine W.widen (k := cells + 3) (n := slots + 107) (Nat.le_add_right _ _) (Nat.le_add_right _ _) ?_
  exact kk K ad M1 M2 H locs ls hB.2 Z hl
set_option maxRecDepth 100000 in
set_option maxHeartbeats 4000000 in
theorem lc_7 (C : Cx T D p s m args c code 4 "OneOfTwoLaw") (hX : va_X b L xs s s.heap) (hbl : b < s.heap.size) (hk : k + 6 ≤ L) (hL : L ≤ 3072) (Z : LZ T D ad K am s Mc Mm H locs) (hXS : XS SA (fun q => s.heap.size ≤ q) s s.heap) (hO : AOs s) {ls : Array Slot} (hl : lv_has ls 4 [(0, .ref b), (1, .ref (ad 0)), (2, .ref (am 0)), (3, .int (nI k))]) (hcells : cells + 3 ≤ room_1.cells) (hslots : slots + 107 ≤ room_1.slots) (hB : LO_7 Inv n K Mc Mm (xs (k + 1)) (xs (k + 2)) (xs (k + 3)) (xs (k + 4)) (xs (k + 5)))
    (kk : ∀ (K1 : Nat) (ad1 : Nat → Nat) (Mc1 Mm1 : Mem) (H : Heap) (locs : List Loc) (ls : Array Slot), Inv (n + 1) K1 Mc1 Mm1 → LZ T D ad1 K1 am s Mc1 Mm1 H locs → lv_has ls 4 [(0, .ref b), (1, .ref (ad1 0)), (2, .ref (am 0)), (3, .int (nI k))] → W p l e room_1 s m args below meth c H locs (cells + 3) (slots + 107) Q (F0 m 1476 ls [])) : W p l e room_1 s m args below meth c H locs cells slots Q (F0 m 425 ls []) := by
  have hx := C.x
  have hb := C.b
  have hcs : cells + 0 ≤ room_1.cells ∧ slots + 0 ≤ room_1.slots := ⟨Nat.le_trans (Nat.le_add_right _ _) hcells, Nat.le_trans (Nat.le_add_right _ _) hslots⟩
  delta LO_7 at hB
  refine lv_aload_n hx hb dL_law_425 rfl (lv_at hl 1 rfl) ?_
  refine lv_aload_n hx hb dL_law_426 rfl (lv_at hl 0 rfl) ?_
  refine lv_iload_n hx hb dL_law_427 rfl (lv_at hl 3 rfl) ?_
  refine lv_iconst (v := 1) hx hb dL_law_428 (by decide) ?_
  refine lv_iadd hx hb dL_law_429 ?_
  refine s_ld (k := k) (j := 1) C.1 hX hbl Z.2.2.2.2.2.2.2 (by omega) hL (nI_add k 1) dL_law_430 ?_
  refine lv_aload_n hx hb dL_law_431 rfl (lv_at hl 0 rfl) ?_
  refine lv_iload_n hx hb dL_law_432 rfl (lv_at hl 3 rfl) ?_
  refine lv_iconst (v := 2) hx hb dL_law_433 (by decide) ?_
  refine lv_iadd hx hb dL_law_434 ?_
  refine s_ld (k := k) (j := 2) C.1 hX hbl Z.2.2.2.2.2.2.2 (by omega) hL (nI_add k 2) dL_law_435 ?_
  refine lk_C (rn_V (n := 2) (As := [.int (xs (k + 1)), .int (xs (k + 2))]) (rest := []) (c_X11_pull hB) rfl rfl tw_2_122 tw_2_120 tw_2_121 tw_1_1 ⟨rfl, by decide, by decide, by decide +kernel⟩ rfl blW (rcC Z C) (fun U hU hW => ⟨rfl, lpC (SA := SA) Z C hU hW⟩) C.1 hl.1 tw_2_119 ⟨(Nat.le_of_ble_eq_true rfl), (Nat.le_of_ble_eq_true rfl)⟩ hcs (Nat.le_of_ble_eq_true rfl) rfl dL_law_436) Z (fun r M1 H locs hB Z => ?_)
  refine lv_aload_n hx hb dL_law_439 rfl (lv_at hl 2 rfl) ?_
  refine lv_aload_n hx hb dL_law_440 rfl (lv_at hl 0 rfl) ?_
  refine lv_iload_n hx hb dL_law_441 rfl (lv_at hl 3 rfl) ?_
  refine lv_iconst (v := 1) hx hb dL_law_442 (by decide) ?_
  refine lv_iadd hx hb dL_law_443 ?_
  refine s_ld (k := k) (j := 1) C.1 hX hbl Z.2.2.2.2.2.2.2 (by omega) hL (nI_add k 1) dL_law_444 ?_
  refine lv_aload_n hx hb dL_law_445 rfl (lv_at hl 0 rfl) ?_
  refine lv_iload_n hx hb dL_law_446 rfl (lv_at hl 3 rfl) ?_
  refine lv_iconst (v := 2) hx hb dL_law_447 (by decide) ?_
  refine lv_iadd hx hb dL_law_448 ?_
  refine s_ld (k := k) (j := 2) C.1 hX hbl Z.2.2.2.2.2.2.2 (by omega) hL (nI_add k 2) dL_law_449 ?_
  refine lk_M (rn_V (n := 2) (As := [.int (xs (k + 1)), .int (xs (k + 2))]) (rest := [.int r]) (c_X12_pull hB) rfl rfl tw_6_78 tw_6_76 tw_6_77 tw_1_12 ⟨rfl, by decide, by decide, by decide +kernel⟩ rfl blW (rcM Z C) (fun U hU hW => ⟨rfl, lpM Z C hU hW⟩) C.1 hl.1 tw_6_75 ⟨(Nat.le_of_ble_eq_true rfl), (Nat.le_of_ble_eq_true rfl)⟩ hcs (Nat.le_of_ble_eq_true rfl) rfl dL_law_450) Z (fun r2 M2 H locs hB Z => ?_)
  refine lv_icmp_eq (tgt := 1476) hx hb dL_law_453 (by decide) (fun _ => ?_) (fun q => absurd hB.1 q)
  refine W.widen (k := cells + 3) (n := slots + 107) (Nat.le_add_right _ _) (Nat.le_add_right _ _) ?_
  exact kk K ad M1 M2 H locs ls hB.2 Z hl
set_option maxRecDepth 100000 in
set_option maxHeartbeats 4000000 in
theorem lc_8 (C : Cx T D p s m args c code 4 "OneOfTwoLaw") (hX : va_X b L xs s s.heap) (hbl : b < s.heap.size) (hk : k + 6 ≤ L) (hL : L ≤ 3072) (Z : LZ T D ad K am s Mc Mm H locs) (hXS : XS SA (fun q => s.heap.size ≤ q) s s.heap) (hO : AOs s) {ls : Array Slot} (hl : lv_has ls 4 [(0, .ref b), (1, .ref (ad 0)), (2, .ref (am 0)), (3, .int (nI k))]) (hcells : cells + 3 ≤ room_1.cells) (hslots : slots + 107 ≤ room_1.slots) (hB : LO_8 Inv n K Mc Mm (xs (k + 1)) (xs (k + 2)) (xs (k + 3)) (xs (k + 4)) (xs (k + 5)))
    (kk : ∀ (K1 : Nat) (ad1 : Nat → Nat) (Mc1 Mm1 : Mem) (H : Heap) (locs : List Loc) (ls : Array Slot), Inv (n + 1) K1 Mc1 Mm1 → LZ T D ad1 K1 am s Mc1 Mm1 H locs → lv_has ls 4 [(0, .ref b), (1, .ref (ad1 0)), (2, .ref (am 0)), (3, .int (nI k))] → W p l e room_1 s m args below meth c H locs (cells + 3) (slots + 107) Q (F0 m 1476 ls [])) : W p l e room_1 s m args below meth c H locs cells slots Q (F0 m 458 ls []) := by
  have hx := C.x
  have hb := C.b
  have hcs : cells + 0 ≤ room_1.cells ∧ slots + 0 ≤ room_1.slots := ⟨Nat.le_trans (Nat.le_add_right _ _) hcells, Nat.le_trans (Nat.le_add_right _ _) hslots⟩
  delta LO_8 at hB
  refine lv_aload_n hx hb dL_law_458 rfl (lv_at hl 1 rfl) ?_
  refine lv_aload_n hx hb dL_law_459 rfl (lv_at hl 0 rfl) ?_
  refine lv_iload_n hx hb dL_law_460 rfl (lv_at hl 3 rfl) ?_
  refine lv_iconst (v := 1) hx hb dL_law_461 (by decide) ?_
  refine lv_iadd hx hb dL_law_462 ?_
  refine s_ld (k := k) (j := 1) C.1 hX hbl Z.2.2.2.2.2.2.2 (by omega) hL (nI_add k 1) dL_law_463 ?_
  refine lv_aload_n hx hb dL_law_464 rfl (lv_at hl 0 rfl) ?_
  refine lv_iload_n hx hb dL_law_465 rfl (lv_at hl 3 rfl) ?_
  refine lv_iconst (v := 2) hx hb dL_law_466 (by decide) ?_
  refine lv_iadd hx hb dL_law_467 ?_
  refine s_ld (k := k) (j := 2) C.1 hX hbl Z.2.2.2.2.2.2.2 (by omega) hL (nI_add k 2) dL_law_468 ?_
  refine lk_C (rn_V (n := 2) (As := [.int (xs (k + 1)), .int (xs (k + 2))]) (rest := []) (c_X11_swap hB) rfl rfl tw_2_138 tw_2_136 tw_2_137 tw_1_1 ⟨rfl, by decide, by decide, by decide +kernel⟩ rfl blW (rcC Z C) (fun U hU hW => ⟨rfl, lpC (SA := SA) Z C hU hW⟩) C.1 hl.1 tw_2_135 ⟨(Nat.le_of_ble_eq_true rfl), (Nat.le_of_ble_eq_true rfl)⟩ hcs (Nat.le_of_ble_eq_true rfl) rfl dL_law_469) Z (fun r M1 H locs hB Z => ?_)
  refine lv_aload_n hx hb dL_law_472 rfl (lv_at hl 2 rfl) ?_
  refine lv_aload_n hx hb dL_law_473 rfl (lv_at hl 0 rfl) ?_
  refine lv_iload_n hx hb dL_law_474 rfl (lv_at hl 3 rfl) ?_
  refine lv_iconst (v := 1) hx hb dL_law_475 (by decide) ?_
  refine lv_iadd hx hb dL_law_476 ?_
  refine s_ld (k := k) (j := 1) C.1 hX hbl Z.2.2.2.2.2.2.2 (by omega) hL (nI_add k 1) dL_law_477 ?_
  refine lv_aload_n hx hb dL_law_478 rfl (lv_at hl 0 rfl) ?_
  refine lv_iload_n hx hb dL_law_479 rfl (lv_at hl 3 rfl) ?_
  refine lv_iconst (v := 2) hx hb dL_law_480 (by decide) ?_
  refine lv_iadd hx hb dL_law_481 ?_
  refine s_ld (k := k) (j := 2) C.1 hX hbl Z.2.2.2.2.2.2.2 (by omega) hL (nI_add k 2) dL_law_482 ?_
  refine lk_M (rn_V (n := 2) (As := [.int (xs (k + 1)), .int (xs (k + 2))]) (rest := [.int r]) (c_X12_swap hB) rfl rfl tw_6_94 tw_6_92 tw_6_93 tw_1_12 ⟨rfl, by decide, by decide, by decide +kernel⟩ rfl blW (rcM Z C) (fun U hU hW => ⟨rfl, lpM Z C hU hW⟩) C.1 hl.1 tw_6_91 ⟨(Nat.le_of_ble_eq_true rfl), (Nat.le_of_ble_eq_true rfl)⟩ hcs (Nat.le_of_ble_eq_true rfl) rfl dL_law_483) Z (fun r2 M2 H locs hB Z => ?_)
  refine lv_icmp_eq (tgt := 1476) hx hb dL_law_486 (by decide) (fun _ => ?_) (fun q => absurd hB.1 q)
  refine W.widen (k := cells + 3) (n := slots + 107) (Nat.le_add_right _ _) (Nat.le_add_right _ _) ?_
  exact kk K ad M1 M2 H locs ls hB.2 Z hl
set_option maxRecDepth 100000 in
set_option maxHeartbeats 4000000 in
theorem lc_9 (C : Cx T D p s m args c code 4 "OneOfTwoLaw") (hX : va_X b L xs s s.heap) (hbl : b < s.heap.size) (hk : k + 6 ≤ L) (hL : L ≤ 3072) (Z : LZ T D ad K am s Mc Mm H locs) (hXS : XS SA (fun q => s.heap.size ≤ q) s s.heap) (hO : AOs s) {ls : Array Slot} (hl : lv_has ls 4 [(0, .ref b), (1, .ref (ad 0)), (2, .ref (am 0)), (3, .int (nI k))]) (hcells : cells + 3 ≤ room_1.cells) (hslots : slots + 107 ≤ room_1.slots) (hB : LO_9 Inv n K Mc Mm (xs (k + 1)) (xs (k + 2)) (xs (k + 3)) (xs (k + 4)) (xs (k + 5)))
    (kk : ∀ (K1 : Nat) (ad1 : Nat → Nat) (Mc1 Mm1 : Mem) (H : Heap) (locs : List Loc) (ls : Array Slot), Inv (n + 1) K1 Mc1 Mm1 → LZ T D ad1 K1 am s Mc1 Mm1 H locs → lv_has ls 4 [(0, .ref b), (1, .ref (ad1 0)), (2, .ref (am 0)), (3, .int (nI k))] → W p l e room_1 s m args below meth c H locs (cells + 3) (slots + 107) Q (F0 m 1476 ls [])) : W p l e room_1 s m args below meth c H locs cells slots Q (F0 m 491 ls []) := by
  have hx := C.x
  have hb := C.b
  have hcs : cells + 0 ≤ room_1.cells ∧ slots + 0 ≤ room_1.slots := ⟨Nat.le_trans (Nat.le_add_right _ _) hcells, Nat.le_trans (Nat.le_add_right _ _) hslots⟩
  delta LO_9 at hB
  refine lv_aload_n hx hb dL_law_491 rfl (lv_at hl 1 rfl) ?_
  refine lv_aload_n hx hb dL_law_492 rfl (lv_at hl 0 rfl) ?_
  refine lv_iload_n hx hb dL_law_493 rfl (lv_at hl 3 rfl) ?_
  refine lv_iconst (v := 1) hx hb dL_law_494 (by decide) ?_
  refine lv_iadd hx hb dL_law_495 ?_
  refine s_ld (k := k) (j := 1) C.1 hX hbl Z.2.2.2.2.2.2.2 (by omega) hL (nI_add k 1) dL_law_496 ?_
  refine lk_C (rn_V (n := 1) (As := [.int (xs (k + 1))]) (rest := []) (c_X11_air hB) rfl rfl tw_2_146 tw_2_144 tw_2_145 tw_1_1 ⟨rfl, by decide, by decide, by decide +kernel⟩ rfl blW (rcC Z C) (fun U hU hW => ⟨rfl, lpC (SA := SA) Z C hU hW⟩) C.1 hl.1 tw_2_143 ⟨(Nat.le_of_ble_eq_true rfl), (Nat.le_of_ble_eq_true rfl)⟩ hcs (Nat.le_of_ble_eq_true rfl) rfl dL_law_497) Z (fun r M1 H locs hB Z => ?_)
  refine lv_aload_n hx hb dL_law_500 rfl (lv_at hl 2 rfl) ?_
  refine lv_aload_n hx hb dL_law_501 rfl (lv_at hl 0 rfl) ?_
  refine lv_iload_n hx hb dL_law_502 rfl (lv_at hl 3 rfl) ?_
  refine lv_iconst (v := 1) hx hb dL_law_503 (by decide) ?_
  refine lv_iadd hx hb dL_law_504 ?_
  refine s_ld (k := k) (j := 1) C.1 hX hbl Z.2.2.2.2.2.2.2 (by omega) hL (nI_add k 1) dL_law_505 ?_
  refine lk_M (rn_V (n := 1) (As := [.int (xs (k + 1))]) (rest := [.int r]) (c_X12_air hB) rfl rfl tw_6_102 tw_6_100 tw_6_101 tw_1_12 ⟨rfl, by decide, by decide, by decide +kernel⟩ rfl blW (rcM Z C) (fun U hU hW => ⟨rfl, lpM Z C hU hW⟩) C.1 hl.1 tw_6_99 ⟨(Nat.le_of_ble_eq_true rfl), (Nat.le_of_ble_eq_true rfl)⟩ hcs (Nat.le_of_ble_eq_true rfl) rfl dL_law_506) Z (fun r2 M2 H locs hB Z => ?_)
  refine lv_icmp_eq (tgt := 1476) hx hb dL_law_509 (by decide) (fun _ => ?_) (fun q => absurd hB.1 q)
  refine W.widen (k := cells + 3) (n := slots + 107) (Nat.le_add_right _ _) (Nat.le_add_right _ _) ?_
  exact kk K ad M1 M2 H locs ls hB.2 Z hl
set_option maxRecDepth 100000 in
set_option maxHeartbeats 4000000 in
theorem lc_10 (C : Cx T D p s m args c code 4 "OneOfTwoLaw") (hX : va_X b L xs s s.heap) (hbl : b < s.heap.size) (hk : k + 6 ≤ L) (hL : L ≤ 3072) (Z : LZ T D ad K am s Mc Mm H locs) (hXS : XS SA (fun q => s.heap.size ≤ q) s s.heap) (hO : AOs s) {ls : Array Slot} (hl : lv_has ls 4 [(0, .ref b), (1, .ref (ad 0)), (2, .ref (am 0)), (3, .int (nI k))]) (hcells : cells + 3 ≤ room_1.cells) (hslots : slots + 107 ≤ room_1.slots) (hB : LO_10 Inv n K Mc Mm (xs (k + 1)) (xs (k + 2)) (xs (k + 3)) (xs (k + 4)) (xs (k + 5)))
    (kk : ∀ (K1 : Nat) (ad1 : Nat → Nat) (Mc1 Mm1 : Mem) (H : Heap) (locs : List Loc) (ls : Array Slot), Inv (n + 1) K1 Mc1 Mm1 → LZ T D ad1 K1 am s Mc1 Mm1 H locs → lv_has ls 4 [(0, .ref b), (1, .ref (ad1 0)), (2, .ref (am 0)), (3, .int (nI k))] → W p l e room_1 s m args below meth c H locs (cells + 3) (slots + 107) Q (F0 m 1476 ls [])) : W p l e room_1 s m args below meth c H locs cells slots Q (F0 m 514 ls []) := by
  have hx := C.x
  have hb := C.b
  have hcs : cells + 0 ≤ room_1.cells ∧ slots + 0 ≤ room_1.slots := ⟨Nat.le_trans (Nat.le_add_right _ _) hcells, Nat.le_trans (Nat.le_add_right _ _) hslots⟩
  delta LO_10 at hB
  refine lv_aload_n hx hb dL_law_514 rfl (lv_at hl 1 rfl) ?_
  refine lv_aload_n hx hb dL_law_515 rfl (lv_at hl 0 rfl) ?_
  refine lv_iload_n hx hb dL_law_516 rfl (lv_at hl 3 rfl) ?_
  refine lv_iconst (v := 1) hx hb dL_law_517 (by decide) ?_
  refine lv_iadd hx hb dL_law_518 ?_
  refine s_ld (k := k) (j := 1) C.1 hX hbl Z.2.2.2.2.2.2.2 (by omega) hL (nI_add k 1) dL_law_519 ?_
  refine lv_aload_n hx hb dL_law_520 rfl (lv_at hl 0 rfl) ?_
  refine lv_iload_n hx hb dL_law_521 rfl (lv_at hl 3 rfl) ?_
  refine lv_iconst (v := 2) hx hb dL_law_522 (by decide) ?_
  refine lv_iadd hx hb dL_law_523 ?_
  refine s_ld (k := k) (j := 2) C.1 hX hbl Z.2.2.2.2.2.2.2 (by omega) hL (nI_add k 2) dL_law_524 ?_
  refine lk_C (rn_V (n := 2) (As := [.int (xs (k + 1)), .int (xs (k + 2))]) (rest := []) (c_X11_lodger hB) rfl rfl tw_2_185 tw_2_183 tw_2_184 tw_1_1 ⟨rfl, by decide, by decide, by decide +kernel⟩ rfl blW (rcC Z C) (fun U hU hW => ⟨rfl, lpC (SA := SA) Z C hU hW⟩) C.1 hl.1 tw_2_182 ⟨(Nat.le_of_ble_eq_true rfl), (Nat.le_of_ble_eq_true rfl)⟩ hcs (Nat.le_of_ble_eq_true rfl) rfl dL_law_525) Z (fun r M1 H locs hB Z => ?_)
  refine lv_aload_n hx hb dL_law_528 rfl (lv_at hl 2 rfl) ?_
  refine lv_aload_n hx hb dL_law_529 rfl (lv_at hl 0 rfl) ?_
  refine lv_iload_n hx hb dL_law_530 rfl (lv_at hl 3 rfl) ?_
  refine lv_iconst (v := 1) hx hb dL_law_531 (by decide) ?_
  refine lv_iadd hx hb dL_law_532 ?_
  refine s_ld (k := k) (j := 1) C.1 hX hbl Z.2.2.2.2.2.2.2 (by omega) hL (nI_add k 1) dL_law_533 ?_
  refine lv_aload_n hx hb dL_law_534 rfl (lv_at hl 0 rfl) ?_
  refine lv_iload_n hx hb dL_law_535 rfl (lv_at hl 3 rfl) ?_
  refine lv_iconst (v := 2) hx hb dL_law_536 (by decide) ?_
  refine lv_iadd hx hb dL_law_537 ?_
  refine s_ld (k := k) (j := 2) C.1 hX hbl Z.2.2.2.2.2.2.2 (by omega) hL (nI_add k 2) dL_law_538 ?_
  refine lk_M (rn_V (n := 2) (As := [.int (xs (k + 1)), .int (xs (k + 2))]) (rest := [.int r]) (c_X12_lodger hB) rfl rfl tw_6_114 tw_6_112 tw_6_113 tw_1_12 ⟨rfl, by decide, by decide, by decide +kernel⟩ rfl blW (rcM Z C) (fun U hU hW => ⟨rfl, lpM Z C hU hW⟩) C.1 hl.1 tw_6_111 ⟨(Nat.le_of_ble_eq_true rfl), (Nat.le_of_ble_eq_true rfl)⟩ hcs (Nat.le_of_ble_eq_true rfl) rfl dL_law_539) Z (fun r2 M2 H locs hB Z => ?_)
  refine lv_icmp_eq (tgt := 1476) hx hb dL_law_542 (by decide) (fun _ => ?_) (fun q => absurd hB.1 q)
  refine W.widen (k := cells + 3) (n := slots + 107) (Nat.le_add_right _ _) (Nat.le_add_right _ _) ?_
  exact kk K ad M1 M2 H locs ls hB.2 Z hl
set_option maxRecDepth 100000 in
set_option maxHeartbeats 4000000 in
theorem lc_11 (C : Cx T D p s m args c code 4 "OneOfTwoLaw") (hX : va_X b L xs s s.heap) (hbl : b < s.heap.size) (hk : k + 6 ≤ L) (hL : L ≤ 3072) (Z : LZ T D ad K am s Mc Mm H locs) (hXS : XS SA (fun q => s.heap.size ≤ q) s s.heap) (hO : AOs s) {ls : Array Slot} (hl : lv_has ls 4 [(0, .ref b), (1, .ref (ad 0)), (2, .ref (am 0)), (3, .int (nI k))]) (hcells : cells + 3 ≤ room_1.cells) (hslots : slots + 107 ≤ room_1.slots) (hB : LO_11 Inv n K Mc Mm (xs (k + 1)) (xs (k + 2)) (xs (k + 3)) (xs (k + 4)) (xs (k + 5)))
    (kk : ∀ (K1 : Nat) (ad1 : Nat → Nat) (Mc1 Mm1 : Mem) (H : Heap) (locs : List Loc) (ls : Array Slot), Inv (n + 1) K1 Mc1 Mm1 → LZ T D ad1 K1 am s Mc1 Mm1 H locs → lv_has ls 4 [(0, .ref b), (1, .ref (ad1 0)), (2, .ref (am 0)), (3, .int (nI k))] → W p l e room_1 s m args below meth c H locs (cells + 3) (slots + 107) Q (F0 m 1476 ls [])) : W p l e room_1 s m args below meth c H locs cells slots Q (F0 m 547 ls []) := by
  have hx := C.x
  have hb := C.b
  have hcs : cells + 0 ≤ room_1.cells ∧ slots + 0 ≤ room_1.slots := ⟨Nat.le_trans (Nat.le_add_right _ _) hcells, Nat.le_trans (Nat.le_add_right _ _) hslots⟩
  delta LO_11 at hB
  refine lv_aload_n hx hb dL_law_547 rfl (lv_at hl 1 rfl) ?_
  refine lv_aload_n hx hb dL_law_548 rfl (lv_at hl 0 rfl) ?_
  refine lv_iload_n hx hb dL_law_549 rfl (lv_at hl 3 rfl) ?_
  refine lv_iconst (v := 1) hx hb dL_law_550 (by decide) ?_
  refine lv_iadd hx hb dL_law_551 ?_
  refine s_ld (k := k) (j := 1) C.1 hX hbl Z.2.2.2.2.2.2.2 (by omega) hL (nI_add k 1) dL_law_552 ?_
  refine lv_aload_n hx hb dL_law_553 rfl (lv_at hl 0 rfl) ?_
  refine lv_iload_n hx hb dL_law_554 rfl (lv_at hl 3 rfl) ?_
  refine lv_iconst (v := 2) hx hb dL_law_555 (by decide) ?_
  refine lv_iadd hx hb dL_law_556 ?_
  refine s_ld (k := k) (j := 2) C.1 hX hbl Z.2.2.2.2.2.2.2 (by omega) hL (nI_add k 2) dL_law_557 ?_
  refine lk_C (rn_V (n := 2) (As := [.int (xs (k + 1)), .int (xs (k + 2))]) (rest := []) (c_X11_ofLodger hB) rfl rfl tw_2_196 tw_2_194 tw_2_195 tw_1_1 ⟨rfl, by decide, by decide, by decide +kernel⟩ rfl blW (rcC Z C) (fun U hU hW => ⟨rfl, lpC (SA := SA) Z C hU hW⟩) C.1 hl.1 tw_2_193 ⟨(Nat.le_of_ble_eq_true rfl), (Nat.le_of_ble_eq_true rfl)⟩ hcs (Nat.le_of_ble_eq_true rfl) rfl dL_law_558) Z (fun r M1 H locs hB Z => ?_)
  refine lv_aload_n hx hb dL_law_561 rfl (lv_at hl 2 rfl) ?_
  refine lv_aload_n hx hb dL_law_562 rfl (lv_at hl 0 rfl) ?_
  refine lv_iload_n hx hb dL_law_563 rfl (lv_at hl 3 rfl) ?_
  refine lv_iconst (v := 1) hx hb dL_law_564 (by decide) ?_
  refine lv_iadd hx hb dL_law_565 ?_
  refine s_ld (k := k) (j := 1) C.1 hX hbl Z.2.2.2.2.2.2.2 (by omega) hL (nI_add k 1) dL_law_566 ?_
  refine lv_aload_n hx hb dL_law_567 rfl (lv_at hl 0 rfl) ?_
  refine lv_iload_n hx hb dL_law_568 rfl (lv_at hl 3 rfl) ?_
  refine lv_iconst (v := 2) hx hb dL_law_569 (by decide) ?_
  refine lv_iadd hx hb dL_law_570 ?_
  refine s_ld (k := k) (j := 2) C.1 hX hbl Z.2.2.2.2.2.2.2 (by omega) hL (nI_add k 2) dL_law_571 ?_
  refine lk_M (rn_V (n := 2) (As := [.int (xs (k + 1)), .int (xs (k + 2))]) (rest := [.int r]) (c_X12_ofLodger hB) rfl rfl tw_6_123 tw_6_121 tw_6_122 tw_1_12 ⟨rfl, by decide, by decide, by decide +kernel⟩ rfl blW (rcM Z C) (fun U hU hW => ⟨rfl, lpM Z C hU hW⟩) C.1 hl.1 tw_6_120 ⟨(Nat.le_of_ble_eq_true rfl), (Nat.le_of_ble_eq_true rfl)⟩ hcs (Nat.le_of_ble_eq_true rfl) rfl dL_law_572) Z (fun r2 M2 H locs hB Z => ?_)
  refine lv_icmp_eq (tgt := 1476) hx hb dL_law_575 (by decide) (fun _ => ?_) (fun q => absurd hB.1 q)
  refine W.widen (k := cells + 3) (n := slots + 107) (Nat.le_add_right _ _) (Nat.le_add_right _ _) ?_
  exact kk K ad M1 M2 H locs ls hB.2 Z hl
set_option maxRecDepth 100000 in
set_option maxHeartbeats 4000000 in
theorem lc_12 (C : Cx T D p s m args c code 4 "OneOfTwoLaw") (hX : va_X b L xs s s.heap) (hbl : b < s.heap.size) (hk : k + 6 ≤ L) (hL : L ≤ 3072) (Z : LZ T D ad K am s Mc Mm H locs) (hXS : XS SA (fun q => s.heap.size ≤ q) s s.heap) (hO : AOs s) {ls : Array Slot} (hl : lv_has ls 4 [(0, .ref b), (1, .ref (ad 0)), (2, .ref (am 0)), (3, .int (nI k))]) (hcells : cells + 3 ≤ room_1.cells) (hslots : slots + 107 ≤ room_1.slots) (hB : LO_12 Inv n K Mc Mm (xs (k + 1)) (xs (k + 2)) (xs (k + 3)) (xs (k + 4)) (xs (k + 5)))
    (kk : ∀ (K1 : Nat) (ad1 : Nat → Nat) (Mc1 Mm1 : Mem) (H : Heap) (locs : List Loc) (ls : Array Slot), Inv (n + 1) K1 Mc1 Mm1 → LZ T D ad1 K1 am s Mc1 Mm1 H locs → lv_has ls 4 [(0, .ref b), (1, .ref (ad1 0)), (2, .ref (am 0)), (3, .int (nI k))] → W p l e room_1 s m args below meth c H locs (cells + 3) (slots + 107) Q (F0 m 1476 ls [])) : W p l e room_1 s m args below meth c H locs cells slots Q (F0 m 580 ls []) := by
  have hx := C.x
  have hb := C.b
  have hcs : cells + 0 ≤ room_1.cells ∧ slots + 0 ≤ room_1.slots := ⟨Nat.le_trans (Nat.le_add_right _ _) hcells, Nat.le_trans (Nat.le_add_right _ _) hslots⟩
  delta LO_12 at hB
  refine lv_aload_n hx hb dL_law_580 rfl (lv_at hl 1 rfl) ?_
  refine lv_aload_n hx hb dL_law_581 rfl (lv_at hl 0 rfl) ?_
  refine lv_iload_n hx hb dL_law_582 rfl (lv_at hl 3 rfl) ?_
  refine lv_iconst (v := 1) hx hb dL_law_583 (by decide) ?_
  refine lv_iadd hx hb dL_law_584 ?_
  refine s_ld (k := k) (j := 1) C.1 hX hbl Z.2.2.2.2.2.2.2 (by omega) hL (nI_add k 1) dL_law_585 ?_
  refine lv_aload_n hx hb dL_law_586 rfl (lv_at hl 0 rfl) ?_
  refine lv_iload_n hx hb dL_law_587 rfl (lv_at hl 3 rfl) ?_
  refine lv_iconst (v := 2) hx hb dL_law_588 (by decide) ?_
  refine lv_iadd hx hb dL_law_589 ?_
  refine s_ld (k := k) (j := 2) C.1 hX hbl Z.2.2.2.2.2.2.2 (by omega) hL (nI_add k 2) dL_law_590 ?_
  refine lk_C (rn_V (n := 2) (As := [.int (xs (k + 1)), .int (xs (k + 2))]) (rest := []) (c_X11_become hB) rfl rfl tw_3_38 tw_3_36 tw_3_37 tw_1_1 ⟨rfl, by decide, by decide, by decide +kernel⟩ rfl blW (rcC Z C) (fun U hU hW => ⟨rfl, lpC (SA := SA) Z C hU hW⟩) C.1 hl.1 tw_3_35 ⟨(Nat.le_of_ble_eq_true rfl), (Nat.le_of_ble_eq_true rfl)⟩ hcs (Nat.le_of_ble_eq_true rfl) rfl dL_law_591) Z (fun r M1 H locs hB Z => ?_)
  refine lv_aload_n hx hb dL_law_594 rfl (lv_at hl 2 rfl) ?_
  refine lv_aload_n hx hb dL_law_595 rfl (lv_at hl 0 rfl) ?_
  refine lv_iload_n hx hb dL_law_596 rfl (lv_at hl 3 rfl) ?_
  refine lv_iconst (v := 1) hx hb dL_law_597 (by decide) ?_
  refine lv_iadd hx hb dL_law_598 ?_
  refine s_ld (k := k) (j := 1) C.1 hX hbl Z.2.2.2.2.2.2.2 (by omega) hL (nI_add k 1) dL_law_599 ?_
  refine lv_aload_n hx hb dL_law_600 rfl (lv_at hl 0 rfl) ?_
  refine lv_iload_n hx hb dL_law_601 rfl (lv_at hl 3 rfl) ?_
  refine lv_iconst (v := 2) hx hb dL_law_602 (by decide) ?_
  refine lv_iadd hx hb dL_law_603 ?_
  refine s_ld (k := k) (j := 2) C.1 hX hbl Z.2.2.2.2.2.2.2 (by omega) hL (nI_add k 2) dL_law_604 ?_
  refine lk_M (rn_V (n := 2) (As := [.int (xs (k + 1)), .int (xs (k + 2))]) (rest := [.int r]) (c_X12_become hB) rfl rfl tw_6_152 tw_6_150 tw_6_151 tw_1_12 ⟨rfl, by decide, by decide, by decide +kernel⟩ rfl blW (rcM Z C) (fun U hU hW => ⟨rfl, lpM Z C hU hW⟩) C.1 hl.1 tw_6_149 ⟨(Nat.le_of_ble_eq_true rfl), (Nat.le_of_ble_eq_true rfl)⟩ hcs (Nat.le_of_ble_eq_true rfl) rfl dL_law_605) Z (fun r2 M2 H locs hB Z => ?_)
  refine lv_icmp_eq (tgt := 1476) hx hb dL_law_608 (by decide) (fun _ => ?_) (fun q => absurd hB.1 q)
  refine W.widen (k := cells + 3) (n := slots + 107) (Nat.le_add_right _ _) (Nat.le_add_right _ _) ?_
  exact kk K ad M1 M2 H locs ls hB.2 Z hl
set_option maxRecDepth 100000 in
set_option maxHeartbeats 4000000 in
theorem lc_13 (C : Cx T D p s m args c code 4 "OneOfTwoLaw") (hX : va_X b L xs s s.heap) (hbl : b < s.heap.size) (hk : k + 6 ≤ L) (hL : L ≤ 3072) (Z : LZ T D ad K am s Mc Mm H locs) (hXS : XS SA (fun q => s.heap.size ≤ q) s s.heap) (hO : AOs s) {ls : Array Slot} (hl : lv_has ls 4 [(0, .ref b), (1, .ref (ad 0)), (2, .ref (am 0)), (3, .int (nI k))]) (hcells : cells + 3 ≤ room_1.cells) (hslots : slots + 107 ≤ room_1.slots) (hB : LO_13 Inv n K Mc Mm (xs (k + 1)) (xs (k + 2)) (xs (k + 3)) (xs (k + 4)) (xs (k + 5)))
    (kk : ∀ (K1 : Nat) (ad1 : Nat → Nat) (Mc1 Mm1 : Mem) (H : Heap) (locs : List Loc) (ls : Array Slot), Inv (n + 1) K1 Mc1 Mm1 → LZ T D ad1 K1 am s Mc1 Mm1 H locs → lv_has ls 4 [(0, .ref b), (1, .ref (ad1 0)), (2, .ref (am 0)), (3, .int (nI k))] → W p l e room_1 s m args below meth c H locs (cells + 3) (slots + 107) Q (F0 m 1476 ls [])) : W p l e room_1 s m args below meth c H locs cells slots Q (F0 m 613 ls []) := by
  have hx := C.x
  have hb := C.b
  have hcs : cells + 0 ≤ room_1.cells ∧ slots + 0 ≤ room_1.slots := ⟨Nat.le_trans (Nat.le_add_right _ _) hcells, Nat.le_trans (Nat.le_add_right _ _) hslots⟩
  delta LO_13 at hB
  refine lv_aload_n hx hb dL_law_613 rfl (lv_at hl 1 rfl) ?_
  refine lv_aload_n hx hb dL_law_614 rfl (lv_at hl 0 rfl) ?_
  refine lv_iload_n hx hb dL_law_615 rfl (lv_at hl 3 rfl) ?_
  refine lv_iconst (v := 1) hx hb dL_law_616 (by decide) ?_
  refine lv_iadd hx hb dL_law_617 ?_
  refine s_ld (k := k) (j := 1) C.1 hX hbl Z.2.2.2.2.2.2.2 (by omega) hL (nI_add k 1) dL_law_618 ?_
  refine lv_aload_n hx hb dL_law_619 rfl (lv_at hl 0 rfl) ?_
  refine lv_iload_n hx hb dL_law_620 rfl (lv_at hl 3 rfl) ?_
  refine lv_iconst (v := 2) hx hb dL_law_621 (by decide) ?_
  refine lv_iadd hx hb dL_law_622 ?_
  refine s_ld (k := k) (j := 2) C.1 hX hbl Z.2.2.2.2.2.2.2 (by omega) hL (nI_add k 2) dL_law_623 ?_
  refine lk_C (rn_V (n := 2) (As := [.int (xs (k + 1)), .int (xs (k + 2))]) (rest := []) (c_X11_as hB) rfl rfl tw_3_42 tw_3_40 tw_3_41 tw_1_1 ⟨rfl, by decide, by decide, by decide +kernel⟩ rfl blX (rcC Z C) (fun U hU hW => ⟨rfl, lpX Z hXS C hU hW⟩) C.1 hl.1 tw_3_39 ⟨(Nat.le_of_ble_eq_true rfl), (Nat.le_of_ble_eq_true rfl)⟩ hcs (Nat.le_of_ble_eq_true rfl) rfl dL_law_624) Z (fun r M1 H locs hB Z => ?_)
  refine lv_aload_n hx hb dL_law_627 rfl (lv_at hl 2 rfl) ?_
  refine lv_aload_n hx hb dL_law_628 rfl (lv_at hl 0 rfl) ?_
  refine lv_iload_n hx hb dL_law_629 rfl (lv_at hl 3 rfl) ?_
  refine lv_iconst (v := 1) hx hb dL_law_630 (by decide) ?_
  refine lv_iadd hx hb dL_law_631 ?_
  refine s_ld (k := k) (j := 1) C.1 hX hbl Z.2.2.2.2.2.2.2 (by omega) hL (nI_add k 1) dL_law_632 ?_
  refine lv_aload_n hx hb dL_law_633 rfl (lv_at hl 0 rfl) ?_
  refine lv_iload_n hx hb dL_law_634 rfl (lv_at hl 3 rfl) ?_
  refine lv_iconst (v := 2) hx hb dL_law_635 (by decide) ?_
  refine lv_iadd hx hb dL_law_636 ?_
  refine s_ld (k := k) (j := 2) C.1 hX hbl Z.2.2.2.2.2.2.2 (by omega) hL (nI_add k 2) dL_law_637 ?_
  refine lk_M (rn_V (n := 2) (As := [.int (xs (k + 1)), .int (xs (k + 2))]) (rest := [.int r]) (c_X12_as hB) rfl rfl tw_6_156 tw_6_154 tw_6_155 tw_1_12 ⟨rfl, by decide, by decide, by decide +kernel⟩ rfl blW (rcM Z C) (fun U hU hW => ⟨rfl, lpM Z C hU hW⟩) C.1 hl.1 tw_6_153 ⟨(Nat.le_of_ble_eq_true rfl), (Nat.le_of_ble_eq_true rfl)⟩ hcs (Nat.le_of_ble_eq_true rfl) rfl dL_law_638) Z (fun r2 M2 H locs hB Z => ?_)
  refine lv_icmp_eq (tgt := 1476) hx hb dL_law_641 (by decide) (fun _ => ?_) (fun q => absurd hB.1 q)
  refine W.widen (k := cells + 3) (n := slots + 107) (Nat.le_add_right _ _) (Nat.le_add_right _ _) ?_
  exact kk K ad M1 M2 H locs ls hB.2 Z hl
set_option maxRecDepth 100000 in
set_option maxHeartbeats 4000000 in
theorem lc_14 (C : Cx T D p s m args c code 4 "OneOfTwoLaw") (hX : va_X b L xs s s.heap) (hbl : b < s.heap.size) (hk : k + 6 ≤ L) (hL : L ≤ 3072) (Z : LZ T D ad K am s Mc Mm H locs) (hXS : XS SA (fun q => s.heap.size ≤ q) s s.heap) (hO : AOs s) {ls : Array Slot} (hl : lv_has ls 4 [(0, .ref b), (1, .ref (ad 0)), (2, .ref (am 0)), (3, .int (nI k))]) (hcells : cells + 3 ≤ room_1.cells) (hslots : slots + 107 ≤ room_1.slots) (hB : LO_14 Inv n K Mc Mm (xs (k + 1)) (xs (k + 2)) (xs (k + 3)) (xs (k + 4)) (xs (k + 5)))
    (kk : ∀ (K1 : Nat) (ad1 : Nat → Nat) (Mc1 Mm1 : Mem) (H : Heap) (locs : List Loc) (ls : Array Slot), Inv (n + 1) K1 Mc1 Mm1 → LZ T D ad1 K1 am s Mc1 Mm1 H locs → lv_has ls 4 [(0, .ref b), (1, .ref (ad1 0)), (2, .ref (am 0)), (3, .int (nI k))] → W p l e room_1 s m args below meth c H locs (cells + 3) (slots + 107) Q (F0 m 1476 ls [])) : W p l e room_1 s m args below meth c H locs cells slots Q (F0 m 646 ls []) := by
  have hx := C.x
  have hb := C.b
  have hcs : cells + 0 ≤ room_1.cells ∧ slots + 0 ≤ room_1.slots := ⟨Nat.le_trans (Nat.le_add_right _ _) hcells, Nat.le_trans (Nat.le_add_right _ _) hslots⟩
  delta LO_14 at hB
  refine lv_aload_n hx hb dL_law_646 rfl (lv_at hl 1 rfl) ?_
  refine lv_aload_n hx hb dL_law_647 rfl (lv_at hl 0 rfl) ?_
  refine lv_iload_n hx hb dL_law_648 rfl (lv_at hl 3 rfl) ?_
  refine lv_iconst (v := 1) hx hb dL_law_649 (by decide) ?_
  refine lv_iadd hx hb dL_law_650 ?_
  refine s_ld (k := k) (j := 1) C.1 hX hbl Z.2.2.2.2.2.2.2 (by omega) hL (nI_add k 1) dL_law_651 ?_
  refine lv_aload_n hx hb dL_law_652 rfl (lv_at hl 0 rfl) ?_
  refine lv_iload_n hx hb dL_law_653 rfl (lv_at hl 3 rfl) ?_
  refine lv_iconst (v := 2) hx hb dL_law_654 (by decide) ?_
  refine lv_iadd hx hb dL_law_655 ?_
  refine s_ld (k := k) (j := 2) C.1 hX hbl Z.2.2.2.2.2.2.2 (by omega) hL (nI_add k 2) dL_law_656 ?_
  refine lk_C (rn_V (n := 2) (As := [.int (xs (k + 1)), .int (xs (k + 2))]) (rest := []) (c_X11_goes hB) rfl rfl tw_3_51 tw_3_49 tw_3_50 tw_1_1 ⟨rfl, by decide, by decide, by decide +kernel⟩ rfl blW (rcC Z C) (fun U hU hW => ⟨rfl, lpC (SA := SA) Z C hU hW⟩) C.1 hl.1 tw_3_48 ⟨(Nat.le_of_ble_eq_true rfl), (Nat.le_of_ble_eq_true rfl)⟩ hcs (Nat.le_of_ble_eq_true rfl) rfl dL_law_657) Z (fun r M1 H locs hB Z => ?_)
  refine lv_aload_n hx hb dL_law_660 rfl (lv_at hl 2 rfl) ?_
  refine lv_aload_n hx hb dL_law_661 rfl (lv_at hl 0 rfl) ?_
  refine lv_iload_n hx hb dL_law_662 rfl (lv_at hl 3 rfl) ?_
  refine lv_iconst (v := 1) hx hb dL_law_663 (by decide) ?_
  refine lv_iadd hx hb dL_law_664 ?_
  refine s_ld (k := k) (j := 1) C.1 hX hbl Z.2.2.2.2.2.2.2 (by omega) hL (nI_add k 1) dL_law_665 ?_
  refine lv_aload_n hx hb dL_law_666 rfl (lv_at hl 0 rfl) ?_
  refine lv_iload_n hx hb dL_law_667 rfl (lv_at hl 3 rfl) ?_
  refine lv_iconst (v := 2) hx hb dL_law_668 (by decide) ?_
  refine lv_iadd hx hb dL_law_669 ?_
  refine s_ld (k := k) (j := 2) C.1 hX hbl Z.2.2.2.2.2.2.2 (by omega) hL (nI_add k 2) dL_law_670 ?_
  refine lk_M (rn_V (n := 2) (As := [.int (xs (k + 1)), .int (xs (k + 2))]) (rest := [.int r]) (c_X12_goes hB) rfl rfl tw_6_163 tw_6_161 tw_6_162 tw_1_12 ⟨rfl, by decide, by decide, by decide +kernel⟩ rfl blW (rcM Z C) (fun U hU hW => ⟨rfl, lpM Z C hU hW⟩) C.1 hl.1 tw_6_160 ⟨(Nat.le_of_ble_eq_true rfl), (Nat.le_of_ble_eq_true rfl)⟩ hcs (Nat.le_of_ble_eq_true rfl) rfl dL_law_671) Z (fun r2 M2 H locs hB Z => ?_)
  refine lv_icmp_eq (tgt := 1476) hx hb dL_law_674 (by decide) (fun _ => ?_) (fun q => absurd hB.1 q)
  refine W.widen (k := cells + 3) (n := slots + 107) (Nat.le_add_right _ _) (Nat.le_add_right _ _) ?_
  exact kk K ad M1 M2 H locs ls hB.2 Z hl
set_option maxRecDepth 100000 in
set_option maxHeartbeats 4000000 in
theorem lc_15 (C : Cx T D p s m args c code 4 "OneOfTwoLaw") (hX : va_X b L xs s s.heap) (hbl : b < s.heap.size) (hk : k + 6 ≤ L) (hL : L ≤ 3072) (Z : LZ T D ad K am s Mc Mm H locs) (hXS : XS SA (fun q => s.heap.size ≤ q) s s.heap) (hO : AOs s) {ls : Array Slot} (hl : lv_has ls 4 [(0, .ref b), (1, .ref (ad 0)), (2, .ref (am 0)), (3, .int (nI k))]) (hcells : cells + 3 ≤ room_1.cells) (hslots : slots + 107 ≤ room_1.slots) (hB : LO_15 Inv n K Mc Mm (xs (k + 1)) (xs (k + 2)) (xs (k + 3)) (xs (k + 4)) (xs (k + 5)))
    (kk : ∀ (K1 : Nat) (ad1 : Nat → Nat) (Mc1 Mm1 : Mem) (H : Heap) (locs : List Loc) (ls : Array Slot), Inv (n + 1) K1 Mc1 Mm1 → LZ T D ad1 K1 am s Mc1 Mm1 H locs → lv_has ls 4 [(0, .ref b), (1, .ref (ad1 0)), (2, .ref (am 0)), (3, .int (nI k))] → W p l e room_1 s m args below meth c H locs (cells + 3) (slots + 107) Q (F0 m 1476 ls [])) : W p l e room_1 s m args below meth c H locs cells slots Q (F0 m 679 ls []) := by
  have hx := C.x
  have hb := C.b
  have hcs : cells + 0 ≤ room_1.cells ∧ slots + 0 ≤ room_1.slots := ⟨Nat.le_trans (Nat.le_add_right _ _) hcells, Nat.le_trans (Nat.le_add_right _ _) hslots⟩
  delta LO_15 at hB
  refine lv_aload_n hx hb dL_law_679 rfl (lv_at hl 1 rfl) ?_
  refine lk_C (rn_V (n := 0) (As := []) (rest := []) (c_X11_content hB) rfl rfl tw_3_55 tw_3_53 tw_3_54 tw_1_1 ⟨rfl, by decide, by decide, by decide +kernel⟩ rfl blW (rcC Z C) (fun U hU hW => ⟨rfl, lpC (SA := SA) Z C hU hW⟩) C.1 hl.1 tw_3_52 ⟨(Nat.le_of_ble_eq_true rfl), (Nat.le_of_ble_eq_true rfl)⟩ hcs (Nat.le_of_ble_eq_true rfl) rfl dL_law_680) Z (fun r M1 H locs hB Z => ?_)
  refine lv_aload_n hx hb dL_law_683 rfl (lv_at hl 2 rfl) ?_
  refine lk_M (rn_V (n := 0) (As := []) (rest := [.int r]) (c_X12_content hB) rfl rfl tw_6_167 tw_6_165 tw_6_166 tw_1_12 ⟨rfl, by decide, by decide, by decide +kernel⟩ rfl blW (rcM Z C) (fun U hU hW => ⟨rfl, lpM Z C hU hW⟩) C.1 hl.1 tw_6_164 ⟨(Nat.le_of_ble_eq_true rfl), (Nat.le_of_ble_eq_true rfl)⟩ hcs (Nat.le_of_ble_eq_true rfl) rfl dL_law_684) Z (fun r2 M2 H locs hB Z => ?_)
  refine lv_icmp_eq (tgt := 1476) hx hb dL_law_687 (by decide) (fun _ => ?_) (fun q => absurd hB.1 q)
  refine W.widen (k := cells + 3) (n := slots + 107) (Nat.le_add_right _ _) (Nat.le_add_right _ _) ?_
  exact kk K ad M1 M2 H locs ls hB.2 Z hl
set_option maxRecDepth 100000 in
set_option maxHeartbeats 4000000 in
theorem lc_16 (C : Cx T D p s m args c code 4 "OneOfTwoLaw") (hX : va_X b L xs s s.heap) (hbl : b < s.heap.size) (hk : k + 6 ≤ L) (hL : L ≤ 3072) (Z : LZ T D ad K am s Mc Mm H locs) (hXS : XS SA (fun q => s.heap.size ≤ q) s s.heap) (hO : AOs s) {ls : Array Slot} (hl : lv_has ls 4 [(0, .ref b), (1, .ref (ad 0)), (2, .ref (am 0)), (3, .int (nI k))]) (hcells : cells + 3 ≤ room_1.cells) (hslots : slots + 107 ≤ room_1.slots) (hB : LO_16 Inv n K Mc Mm (xs (k + 1)) (xs (k + 2)) (xs (k + 3)) (xs (k + 4)) (xs (k + 5)))
    (kk : ∀ (K1 : Nat) (ad1 : Nat → Nat) (Mc1 Mm1 : Mem) (H : Heap) (locs : List Loc) (ls : Array Slot), Inv (n + 1) K1 Mc1 Mm1 → LZ T D ad1 K1 am s Mc1 Mm1 H locs → lv_has ls 4 [(0, .ref b), (1, .ref (ad1 0)), (2, .ref (am 0)), (3, .int (nI k))] → W p l e room_1 s m args below meth c H locs (cells + 3) (slots + 107) Q (F0 m 1476 ls [])) : W p l e room_1 s m args below meth c H locs cells slots Q (F0 m 692 ls []) := by
  have hx := C.x
  have hb := C.b
  have hcs : cells + 0 ≤ room_1.cells ∧ slots + 0 ≤ room_1.slots := ⟨Nat.le_trans (Nat.le_add_right _ _) hcells, Nat.le_trans (Nat.le_add_right _ _) hslots⟩
  delta LO_16 at hB
  refine lv_aload_n hx hb dL_law_692 rfl (lv_at hl 1 rfl) ?_
  refine lv_aload_n hx hb dL_law_693 rfl (lv_at hl 0 rfl) ?_
  refine lv_iload_n hx hb dL_law_694 rfl (lv_at hl 3 rfl) ?_
  refine lv_iconst (v := 1) hx hb dL_law_695 (by decide) ?_
  refine lv_iadd hx hb dL_law_696 ?_
  refine s_ld (k := k) (j := 1) C.1 hX hbl Z.2.2.2.2.2.2.2 (by omega) hL (nI_add k 1) dL_law_697 ?_
  refine lv_i2l hx hb dL_law_698 rfl ?_
  refine lv_bipush (v := 32) hx hb dL_law_699 (by decide) ?_
  refine lv_lshl hx hb dL_law_701 rfl ?_
  refine lv_aload_n hx hb dL_law_702 rfl (lv_at hl 0 rfl) ?_
  refine lv_iload_n hx hb dL_law_703 rfl (lv_at hl 3 rfl) ?_
  refine lv_iconst (v := 2) hx hb dL_law_704 (by decide) ?_
  refine lv_iadd hx hb dL_law_705 ?_
  refine s_ld (k := k) (j := 2) C.1 hX hbl Z.2.2.2.2.2.2.2 (by omega) hL (nI_add k 2) dL_law_706 ?_
  refine lv_i2l hx hb dL_law_707 rfl ?_
  refine lv_ldc2 hx hb C.1.2.2.2.1 (C.1.2.2.2.2 _ tw_7_124) dL_law_708 ?_
  refine lv_land hx hb dL_law_711 ?_
  refine lv_lor hx hb dL_law_712 ?_
  refine lv_aload_n hx hb dL_law_713 rfl (lv_at hl 0 rfl) ?_
  refine lv_iload_n hx hb dL_law_714 rfl (lv_at hl 3 rfl) ?_
  refine lv_iconst (v := 3) hx hb dL_law_715 (by decide) ?_
  refine lv_iadd hx hb dL_law_716 ?_
  refine s_ld (k := k) (j := 3) C.1 hX hbl Z.2.2.2.2.2.2.2 (by omega) hL (nI_add k 3) dL_law_717 ?_
  refine lk_C (rn_V (n := 2) (As := [.long (((xs (k + 1)).toInt64 <<< ((32 : Int32).toInt64 &&& 63)) ||| ((xs (k + 2)).toInt64 &&& 4294967295)), .int (xs (k + 3))]) (rest := []) (c_X11_feed hB) rfl rfl tw_3_64 tw_3_62 tw_3_63 tw_1_1 ⟨rfl, by decide, by decide, by decide +kernel⟩ rfl blW (rcC Z C) (fun U hU hW => ⟨rfl, lpC (SA := SA) Z C hU hW⟩) C.1 hl.1 tw_3_61 ⟨(Nat.le_of_ble_eq_true rfl), (Nat.le_of_ble_eq_true rfl)⟩ hcs (Nat.le_of_ble_eq_true rfl) rfl dL_law_718) Z (fun r M1 H locs hB Z => ?_)
  refine lv_aload_n hx hb dL_law_721 rfl (lv_at hl 2 rfl) ?_
  refine lv_aload_n hx hb dL_law_722 rfl (lv_at hl 0 rfl) ?_
  refine lv_iload_n hx hb dL_law_723 rfl (lv_at hl 3 rfl) ?_
  refine lv_iconst (v := 1) hx hb dL_law_724 (by decide) ?_
  refine lv_iadd hx hb dL_law_725 ?_
  refine s_ld (k := k) (j := 1) C.1 hX hbl Z.2.2.2.2.2.2.2 (by omega) hL (nI_add k 1) dL_law_726 ?_
  refine lv_i2l hx hb dL_law_727 rfl ?_
  refine lv_bipush (v := 32) hx hb dL_law_728 (by decide) ?_
  refine lv_lshl hx hb dL_law_730 rfl ?_
  refine lv_aload_n hx hb dL_law_731 rfl (lv_at hl 0 rfl) ?_
  refine lv_iload_n hx hb dL_law_732 rfl (lv_at hl 3 rfl) ?_
  refine lv_iconst (v := 2) hx hb dL_law_733 (by decide) ?_
  refine lv_iadd hx hb dL_law_734 ?_
  refine s_ld (k := k) (j := 2) C.1 hX hbl Z.2.2.2.2.2.2.2 (by omega) hL (nI_add k 2) dL_law_735 ?_
  refine lv_i2l hx hb dL_law_736 rfl ?_
  refine lv_ldc2 hx hb C.1.2.2.2.1 (C.1.2.2.2.2 _ tw_7_124) dL_law_737 ?_
  refine lv_land hx hb dL_law_740 ?_
  refine lv_lor hx hb dL_law_741 ?_
  refine lv_aload_n hx hb dL_law_742 rfl (lv_at hl 0 rfl) ?_
  refine lv_iload_n hx hb dL_law_743 rfl (lv_at hl 3 rfl) ?_
  refine lv_iconst (v := 3) hx hb dL_law_744 (by decide) ?_
  refine lv_iadd hx hb dL_law_745 ?_
  refine s_ld (k := k) (j := 3) C.1 hX hbl Z.2.2.2.2.2.2.2 (by omega) hL (nI_add k 3) dL_law_746 ?_
  refine lk_M (rn_V (n := 2) (As := [.long (((xs (k + 1)).toInt64 <<< ((32 : Int32).toInt64 &&& 63)) ||| ((xs (k + 2)).toInt64 &&& 4294967295)), .int (xs (k + 3))]) (rest := [.int r]) (c_X12_feed hB) rfl rfl tw_5_189 tw_5_187 tw_5_188 tw_1_12 ⟨rfl, by decide, by decide, by decide +kernel⟩ rfl blW (rcM Z C) (fun U hU hW => ⟨rfl, lpM Z C hU hW⟩) C.1 hl.1 tw_5_186 ⟨(Nat.le_of_ble_eq_true rfl), (Nat.le_of_ble_eq_true rfl)⟩ hcs (Nat.le_of_ble_eq_true rfl) rfl dL_law_747) Z (fun r2 M2 H locs hB Z => ?_)
  refine lv_icmp_eq (tgt := 1476) hx hb dL_law_750 (by decide) (fun _ => ?_) (fun q => absurd hB.1 q)
  refine W.widen (k := cells + 3) (n := slots + 107) (Nat.le_add_right _ _) (Nat.le_add_right _ _) ?_
  exact kk K ad M1 M2 H locs ls hB.2 Z hl
set_option maxRecDepth 100000 in
set_option maxHeartbeats 4000000 in
theorem lc_17 (C : Cx T D p s m args c code 4 "OneOfTwoLaw") (hX : va_X b L xs s s.heap) (hbl : b < s.heap.size) (hk : k + 6 ≤ L) (hL : L ≤ 3072) (Z : LZ T D ad K am s Mc Mm H locs) (hXS : XS SA (fun q => s.heap.size ≤ q) s s.heap) (hO : AOs s) {ls : Array Slot} (hl : lv_has ls 4 [(0, .ref b), (1, .ref (ad 0)), (2, .ref (am 0)), (3, .int (nI k))]) (hcells : cells + 3 ≤ room_1.cells) (hslots : slots + 107 ≤ room_1.slots) (hB : LO_17 Inv n K Mc Mm (xs (k + 1)) (xs (k + 2)) (xs (k + 3)) (xs (k + 4)) (xs (k + 5)))
    (kk : ∀ (K1 : Nat) (ad1 : Nat → Nat) (Mc1 Mm1 : Mem) (H : Heap) (locs : List Loc) (ls : Array Slot), Inv (n + 1) K1 Mc1 Mm1 → LZ T D ad1 K1 am s Mc1 Mm1 H locs → lv_has ls 4 [(0, .ref b), (1, .ref (ad1 0)), (2, .ref (am 0)), (3, .int (nI k))] → W p l e room_1 s m args below meth c H locs (cells + 3) (slots + 107) Q (F0 m 1476 ls [])) : W p l e room_1 s m args below meth c H locs cells slots Q (F0 m 755 ls []) := by
  have hx := C.x
  have hb := C.b
  have hcs : cells + 0 ≤ room_1.cells ∧ slots + 0 ≤ room_1.slots := ⟨Nat.le_trans (Nat.le_add_right _ _) hcells, Nat.le_trans (Nat.le_add_right _ _) hslots⟩
  delta LO_17 at hB
  refine lv_aload_n hx hb dL_law_755 rfl (lv_at hl 1 rfl) ?_
  refine lv_aload_n hx hb dL_law_756 rfl (lv_at hl 0 rfl) ?_
  refine lv_iload_n hx hb dL_law_757 rfl (lv_at hl 3 rfl) ?_
  refine lv_iconst (v := 1) hx hb dL_law_758 (by decide) ?_
  refine lv_iadd hx hb dL_law_759 ?_
  refine s_ld (k := k) (j := 1) C.1 hX hbl Z.2.2.2.2.2.2.2 (by omega) hL (nI_add k 1) dL_law_760 ?_
  refine lk_T (rn_V (n := 1) (As := [.int (xs (k + 1))]) (rest := []) (c_X11_text hB) rfl rfl tw_3_72 tw_3_70 tw_3_71 tw_1_1 ⟨rfl, by decide, by decide, by decide +kernel⟩ rfl blT (rcC Z C) (fun U hU hW => ⟨rfl, lpX Z hXS C hU hW, hO.warm hW⟩) C.1 hl.1 tw_3_69 ⟨(Nat.le_of_ble_eq_true rfl), (Nat.le_of_ble_eq_true rfl)⟩ ⟨hcells, hslots⟩ (Nat.le_of_ble_eq_true rfl) rfl dL_law_761) Z (fun r K1 ad1 M1 H locs hB ha0 Z => ?_)
  rw [← ha0] at hl
  have hcs : cells + 3 + 0 ≤ room_1.cells ∧ slots + 107 + 0 ≤ room_1.slots := ⟨hcells, hslots⟩
  refine lv_aload_n hx hb dL_law_764 rfl (lv_at hl 2 rfl) ?_
  refine lv_aload_n hx hb dL_law_765 rfl (lv_at hl 0 rfl) ?_
  refine lv_iload_n hx hb dL_law_766 rfl (lv_at hl 3 rfl) ?_
  refine lv_iconst (v := 1) hx hb dL_law_767 (by decide) ?_
  refine lv_iadd hx hb dL_law_768 ?_
  refine s_ld (k := k) (j := 1) C.1 hX hbl Z.2.2.2.2.2.2.2 (by omega) hL (nI_add k 1) dL_law_769 ?_
  refine lk_M (rn_V (n := 1) (As := [.int (xs (k + 1))]) (rest := [.int r]) (c_X12_text hB) rfl rfl tw_5_203 tw_5_201 tw_5_202 tw_1_12 ⟨rfl, by decide, by decide, by decide +kernel⟩ rfl blW (rcM Z C) (fun U hU hW => ⟨rfl, lpM Z C hU hW⟩) C.1 hl.1 tw_5_200 ⟨(Nat.le_of_ble_eq_true rfl), (Nat.le_of_ble_eq_true rfl)⟩ hcs (Nat.le_of_ble_eq_true rfl) rfl dL_law_770) Z (fun r2 M2 H locs hB Z => ?_)
  refine lv_icmp_eq (tgt := 1476) hx hb dL_law_773 (by decide) (fun _ => ?_) (fun q => absurd hB.1 q)
  refine W.widen (k := cells + 3) (n := slots + 107) (Nat.le_refl _) (Nat.le_refl _) ?_
  exact kk K1 ad1 M1 M2 H locs ls hB.2 Z hl
set_option maxRecDepth 100000 in
set_option maxHeartbeats 4000000 in
theorem lc_18 (C : Cx T D p s m args c code 4 "OneOfTwoLaw") (hX : va_X b L xs s s.heap) (hbl : b < s.heap.size) (hk : k + 6 ≤ L) (hL : L ≤ 3072) (Z : LZ T D ad K am s Mc Mm H locs) (hXS : XS SA (fun q => s.heap.size ≤ q) s s.heap) (hO : AOs s) {ls : Array Slot} (hl : lv_has ls 4 [(0, .ref b), (1, .ref (ad 0)), (2, .ref (am 0)), (3, .int (nI k))]) (hcells : cells + 3 ≤ room_1.cells) (hslots : slots + 107 ≤ room_1.slots) (hB : LO_18 Inv n K Mc Mm (xs (k + 1)) (xs (k + 2)) (xs (k + 3)) (xs (k + 4)) (xs (k + 5)))
    (kk : ∀ (K1 : Nat) (ad1 : Nat → Nat) (Mc1 Mm1 : Mem) (H : Heap) (locs : List Loc) (ls : Array Slot), Inv (n + 1) K1 Mc1 Mm1 → LZ T D ad1 K1 am s Mc1 Mm1 H locs → lv_has ls 4 [(0, .ref b), (1, .ref (ad1 0)), (2, .ref (am 0)), (3, .int (nI k))] → W p l e room_1 s m args below meth c H locs (cells + 3) (slots + 107) Q (F0 m 1476 ls [])) : W p l e room_1 s m args below meth c H locs cells slots Q (F0 m 778 ls []) := by
  have hx := C.x
  have hb := C.b
  have hcs : cells + 0 ≤ room_1.cells ∧ slots + 0 ≤ room_1.slots := ⟨Nat.le_trans (Nat.le_add_right _ _) hcells, Nat.le_trans (Nat.le_add_right _ _) hslots⟩
  delta LO_18 at hB
  refine lv_aload_n hx hb dL_law_778 rfl (lv_at hl 1 rfl) ?_
  refine lv_aload_n hx hb dL_law_779 rfl (lv_at hl 0 rfl) ?_
  refine lv_iload_n hx hb dL_law_780 rfl (lv_at hl 3 rfl) ?_
  refine lv_iconst (v := 1) hx hb dL_law_781 (by decide) ?_
  refine lv_iadd hx hb dL_law_782 ?_
  refine s_ld (k := k) (j := 1) C.1 hX hbl Z.2.2.2.2.2.2.2 (by omega) hL (nI_add k 1) dL_law_783 ?_
  refine lv_aload_n hx hb dL_law_784 rfl (lv_at hl 0 rfl) ?_
  refine lv_iload_n hx hb dL_law_785 rfl (lv_at hl 3 rfl) ?_
  refine lv_iconst (v := 2) hx hb dL_law_786 (by decide) ?_
  refine lv_iadd hx hb dL_law_787 ?_
  refine s_ld (k := k) (j := 2) C.1 hX hbl Z.2.2.2.2.2.2.2 (by omega) hL (nI_add k 2) dL_law_788 ?_
  refine lv_aload_n hx hb dL_law_789 rfl (lv_at hl 0 rfl) ?_
  refine lv_iload_n hx hb dL_law_790 rfl (lv_at hl 3 rfl) ?_
  refine lv_iconst (v := 3) hx hb dL_law_791 (by decide) ?_
  refine lv_iadd hx hb dL_law_792 ?_
  refine s_ld (k := k) (j := 3) C.1 hX hbl Z.2.2.2.2.2.2.2 (by omega) hL (nI_add k 3) dL_law_793 ?_
  refine lv_aload_n hx hb dL_law_794 rfl (lv_at hl 0 rfl) ?_
  refine lv_iload_n hx hb dL_law_795 rfl (lv_at hl 3 rfl) ?_
  refine lv_iconst (v := 4) hx hb dL_law_796 (by decide) ?_
  refine lv_iadd hx hb dL_law_797 ?_
  refine s_ld (k := k) (j := 4) C.1 hX hbl Z.2.2.2.2.2.2.2 (by omega) hL (nI_add k 4) dL_law_798 ?_
  refine lk_C (rn_V (n := 4) (As := [.int (xs (k + 1)), .int (xs (k + 2)), .int (xs (k + 3)), .int (xs (k + 4))]) (rest := []) (c_X11_law hB) rfl rfl tw_4_6 tw_4_4 tw_4_5 tw_1_1 ⟨rfl, by decide, by decide, by decide +kernel⟩ rfl blW (rcC Z C) (fun U hU hW => ⟨rfl, lpC (SA := SA) Z C hU hW⟩) C.1 hl.1 tw_4_3 ⟨(Nat.le_of_ble_eq_true rfl), (Nat.le_of_ble_eq_true rfl)⟩ hcs (Nat.le_of_ble_eq_true rfl) rfl dL_law_799) Z (fun r M1 H locs hB Z => ?_)
  refine lv_aload_n hx hb dL_law_802 rfl (lv_at hl 2 rfl) ?_
  refine lv_aload_n hx hb dL_law_803 rfl (lv_at hl 0 rfl) ?_
  refine lv_iload_n hx hb dL_law_804 rfl (lv_at hl 3 rfl) ?_
  refine lv_iconst (v := 1) hx hb dL_law_805 (by decide) ?_
  refine lv_iadd hx hb dL_law_806 ?_
  refine s_ld (k := k) (j := 1) C.1 hX hbl Z.2.2.2.2.2.2.2 (by omega) hL (nI_add k 1) dL_law_807 ?_
  refine lv_aload_n hx hb dL_law_808 rfl (lv_at hl 0 rfl) ?_
  refine lv_iload_n hx hb dL_law_809 rfl (lv_at hl 3 rfl) ?_
  refine lv_iconst (v := 2) hx hb dL_law_810 (by decide) ?_
  refine lv_iadd hx hb dL_law_811 ?_
  refine s_ld (k := k) (j := 2) C.1 hX hbl Z.2.2.2.2.2.2.2 (by omega) hL (nI_add k 2) dL_law_812 ?_
  refine lv_aload_n hx hb dL_law_813 rfl (lv_at hl 0 rfl) ?_
  refine lv_iload_n hx hb dL_law_814 rfl (lv_at hl 3 rfl) ?_
  refine lv_iconst (v := 3) hx hb dL_law_815 (by decide) ?_
  refine lv_iadd hx hb dL_law_816 ?_
  refine s_ld (k := k) (j := 3) C.1 hX hbl Z.2.2.2.2.2.2.2 (by omega) hL (nI_add k 3) dL_law_817 ?_
  refine lv_aload_n hx hb dL_law_818 rfl (lv_at hl 0 rfl) ?_
  refine lv_iload_n hx hb dL_law_819 rfl (lv_at hl 3 rfl) ?_
  refine lv_iconst (v := 4) hx hb dL_law_820 (by decide) ?_
  refine lv_iadd hx hb dL_law_821 ?_
  refine s_ld (k := k) (j := 4) C.1 hX hbl Z.2.2.2.2.2.2.2 (by omega) hL (nI_add k 4) dL_law_822 ?_
  refine lk_M (rn_V (n := 4) (As := [.int (xs (k + 1)), .int (xs (k + 2)), .int (xs (k + 3)), .int (xs (k + 4))]) (rest := [.int r]) (c_X12_law hB) rfl rfl tw_6_13 tw_6_11 tw_6_12 tw_1_12 ⟨rfl, by decide, by decide, by decide +kernel⟩ rfl blW (rcM Z C) (fun U hU hW => ⟨rfl, lpM Z C hU hW⟩) C.1 hl.1 tw_6_10 ⟨(Nat.le_of_ble_eq_true rfl), (Nat.le_of_ble_eq_true rfl)⟩ hcs (Nat.le_of_ble_eq_true rfl) rfl dL_law_823) Z (fun r2 M2 H locs hB Z => ?_)
  refine lv_icmp_eq (tgt := 1476) hx hb dL_law_826 (by decide) (fun _ => ?_) (fun q => absurd hB.1 q)
  refine W.widen (k := cells + 3) (n := slots + 107) (Nat.le_add_right _ _) (Nat.le_add_right _ _) ?_
  exact kk K ad M1 M2 H locs ls hB.2 Z hl
set_option maxRecDepth 100000 in
set_option maxHeartbeats 4000000 in
theorem lc_19 (C : Cx T D p s m args c code 4 "OneOfTwoLaw") (hX : va_X b L xs s s.heap) (hbl : b < s.heap.size) (hk : k + 6 ≤ L) (hL : L ≤ 3072) (Z : LZ T D ad K am s Mc Mm H locs) (hXS : XS SA (fun q => s.heap.size ≤ q) s s.heap) (hO : AOs s) {ls : Array Slot} (hl : lv_has ls 4 [(0, .ref b), (1, .ref (ad 0)), (2, .ref (am 0)), (3, .int (nI k))]) (hcells : cells + 3 ≤ room_1.cells) (hslots : slots + 107 ≤ room_1.slots) (hB : LO_19 Inv n K Mc Mm (xs (k + 1)) (xs (k + 2)) (xs (k + 3)) (xs (k + 4)) (xs (k + 5)))
    (kk : ∀ (K1 : Nat) (ad1 : Nat → Nat) (Mc1 Mm1 : Mem) (H : Heap) (locs : List Loc) (ls : Array Slot), Inv (n + 1) K1 Mc1 Mm1 → LZ T D ad1 K1 am s Mc1 Mm1 H locs → lv_has ls 4 [(0, .ref b), (1, .ref (ad1 0)), (2, .ref (am 0)), (3, .int (nI k))] → W p l e room_1 s m args below meth c H locs (cells + 3) (slots + 107) Q (F0 m 1476 ls [])) : W p l e room_1 s m args below meth c H locs cells slots Q (F0 m 831 ls []) := by
  have hx := C.x
  have hb := C.b
  have hcs : cells + 0 ≤ room_1.cells ∧ slots + 0 ≤ room_1.slots := ⟨Nat.le_trans (Nat.le_add_right _ _) hcells, Nat.le_trans (Nat.le_add_right _ _) hslots⟩
  delta LO_19 at hB
  refine lv_aload_n hx hb dL_law_831 rfl (lv_at hl 1 rfl) ?_
  refine lv_aload_n hx hb dL_law_832 rfl (lv_at hl 0 rfl) ?_
  refine lv_iload_n hx hb dL_law_833 rfl (lv_at hl 3 rfl) ?_
  refine lv_iconst (v := 1) hx hb dL_law_834 (by decide) ?_
  refine lv_iadd hx hb dL_law_835 ?_
  refine s_ld (k := k) (j := 1) C.1 hX hbl Z.2.2.2.2.2.2.2 (by omega) hL (nI_add k 1) dL_law_836 ?_
  refine lk_C (rn_V (n := 1) (As := [.int (xs (k + 1))]) (rest := []) (c_X11_turn hB) rfl rfl tw_4_14 tw_4_12 tw_4_13 tw_1_1 ⟨rfl, by decide, by decide, by decide +kernel⟩ rfl blW (rcC Z C) (fun U hU hW => ⟨rfl, lpC (SA := SA) Z C hU hW⟩) C.1 hl.1 tw_4_11 ⟨(Nat.le_of_ble_eq_true rfl), (Nat.le_of_ble_eq_true rfl)⟩ hcs (Nat.le_of_ble_eq_true rfl) rfl dL_law_837) Z (fun r M1 H locs hB Z => ?_)
  refine lv_aload_n hx hb dL_law_840 rfl (lv_at hl 2 rfl) ?_
  refine lv_aload_n hx hb dL_law_841 rfl (lv_at hl 0 rfl) ?_
  refine lv_iload_n hx hb dL_law_842 rfl (lv_at hl 3 rfl) ?_
  refine lv_iconst (v := 1) hx hb dL_law_843 (by decide) ?_
  refine lv_iadd hx hb dL_law_844 ?_
  refine s_ld (k := k) (j := 1) C.1 hX hbl Z.2.2.2.2.2.2.2 (by omega) hL (nI_add k 1) dL_law_845 ?_
  refine lk_M (rn_V (n := 1) (As := [.int (xs (k + 1))]) (rest := [.int r]) (c_X12_turn hB) rfl rfl tw_6_175 tw_6_173 tw_6_174 tw_1_12 ⟨rfl, by decide, by decide, by decide +kernel⟩ rfl blW (rcM Z C) (fun U hU hW => ⟨rfl, lpM Z C hU hW⟩) C.1 hl.1 tw_6_172 ⟨(Nat.le_of_ble_eq_true rfl), (Nat.le_of_ble_eq_true rfl)⟩ hcs (Nat.le_of_ble_eq_true rfl) rfl dL_law_846) Z (fun r2 M2 H locs hB Z => ?_)
  refine lv_icmp_eq (tgt := 1476) hx hb dL_law_849 (by decide) (fun _ => ?_) (fun q => absurd hB.1 q)
  refine W.widen (k := cells + 3) (n := slots + 107) (Nat.le_add_right _ _) (Nat.le_add_right _ _) ?_
  exact kk K ad M1 M2 H locs ls hB.2 Z hl
set_option maxRecDepth 100000 in
set_option maxHeartbeats 4000000 in
theorem lc_20 (C : Cx T D p s m args c code 4 "OneOfTwoLaw") (hX : va_X b L xs s s.heap) (hbl : b < s.heap.size) (hk : k + 6 ≤ L) (hL : L ≤ 3072) (Z : LZ T D ad K am s Mc Mm H locs) (hXS : XS SA (fun q => s.heap.size ≤ q) s s.heap) (hO : AOs s) {ls : Array Slot} (hl : lv_has ls 4 [(0, .ref b), (1, .ref (ad 0)), (2, .ref (am 0)), (3, .int (nI k))]) (hcells : cells + 3 ≤ room_1.cells) (hslots : slots + 107 ≤ room_1.slots) (hB : LO_20 Inv n K Mc Mm (xs (k + 1)) (xs (k + 2)) (xs (k + 3)) (xs (k + 4)) (xs (k + 5)))
    (kk : ∀ (K1 : Nat) (ad1 : Nat → Nat) (Mc1 Mm1 : Mem) (H : Heap) (locs : List Loc) (ls : Array Slot), Inv (n + 1) K1 Mc1 Mm1 → LZ T D ad1 K1 am s Mc1 Mm1 H locs → lv_has ls 4 [(0, .ref b), (1, .ref (ad1 0)), (2, .ref (am 0)), (3, .int (nI k))] → W p l e room_1 s m args below meth c H locs (cells + 3) (slots + 107) Q (F0 m 1476 ls [])) : W p l e room_1 s m args below meth c H locs cells slots Q (F0 m 854 ls []) := by
  have hx := C.x
  have hb := C.b
  have hcs : cells + 0 ≤ room_1.cells ∧ slots + 0 ≤ room_1.slots := ⟨Nat.le_trans (Nat.le_add_right _ _) hcells, Nat.le_trans (Nat.le_add_right _ _) hslots⟩
  delta LO_20 at hB
  refine lv_aload_n hx hb dL_law_854 rfl (lv_at hl 1 rfl) ?_
  refine lv_aload_n hx hb dL_law_855 rfl (lv_at hl 0 rfl) ?_
  refine lv_iload_n hx hb dL_law_856 rfl (lv_at hl 3 rfl) ?_
  refine lv_iconst (v := 1) hx hb dL_law_857 (by decide) ?_
  refine lv_iadd hx hb dL_law_858 ?_
  refine s_ld (k := k) (j := 1) C.1 hX hbl Z.2.2.2.2.2.2.2 (by omega) hL (nI_add k 1) dL_law_859 ?_
  refine lk_C (rn_V (n := 1) (As := [.int (xs (k + 1))]) (rest := []) (c_X11_hours hB) rfl rfl tw_4_40 tw_4_38 tw_4_39 tw_1_1 ⟨rfl, by decide, by decide, by decide +kernel⟩ rfl blW (rcC Z C) (fun U hU hW => ⟨rfl, lpC (SA := SA) Z C hU hW⟩) C.1 hl.1 tw_4_37 ⟨(Nat.le_of_ble_eq_true rfl), (Nat.le_of_ble_eq_true rfl)⟩ hcs (Nat.le_of_ble_eq_true rfl) rfl dL_law_860) Z (fun r M1 H locs hB Z => ?_)
  refine lv_aload_n hx hb dL_law_863 rfl (lv_at hl 2 rfl) ?_
  refine lv_aload_n hx hb dL_law_864 rfl (lv_at hl 0 rfl) ?_
  refine lv_iload_n hx hb dL_law_865 rfl (lv_at hl 3 rfl) ?_
  refine lv_iconst (v := 1) hx hb dL_law_866 (by decide) ?_
  refine lv_iadd hx hb dL_law_867 ?_
  refine s_ld (k := k) (j := 1) C.1 hX hbl Z.2.2.2.2.2.2.2 (by omega) hL (nI_add k 1) dL_law_868 ?_
  refine lk_M (rn_V (n := 1) (As := [.int (xs (k + 1))]) (rest := [.int r]) (c_X12_hours hB) rfl rfl tw_6_191 tw_6_189 tw_6_190 tw_1_12 ⟨rfl, by decide, by decide, by decide +kernel⟩ rfl blW (rcM Z C) (fun U hU hW => ⟨rfl, lpM Z C hU hW⟩) C.1 hl.1 tw_6_188 ⟨(Nat.le_of_ble_eq_true rfl), (Nat.le_of_ble_eq_true rfl)⟩ hcs (Nat.le_of_ble_eq_true rfl) rfl dL_law_869) Z (fun r2 M2 H locs hB Z => ?_)
  refine lv_icmp_eq (tgt := 1476) hx hb dL_law_872 (by decide) (fun _ => ?_) (fun q => absurd hB.1 q)
  refine W.widen (k := cells + 3) (n := slots + 107) (Nat.le_add_right _ _) (Nat.le_add_right _ _) ?_
  exact kk K ad M1 M2 H locs ls hB.2 Z hl
set_option maxRecDepth 100000 in
set_option maxHeartbeats 4000000 in
theorem lc_21 (C : Cx T D p s m args c code 4 "OneOfTwoLaw") (hX : va_X b L xs s s.heap) (hbl : b < s.heap.size) (hk : k + 6 ≤ L) (hL : L ≤ 3072) (Z : LZ T D ad K am s Mc Mm H locs) (hXS : XS SA (fun q => s.heap.size ≤ q) s s.heap) (hO : AOs s) {ls : Array Slot} (hl : lv_has ls 4 [(0, .ref b), (1, .ref (ad 0)), (2, .ref (am 0)), (3, .int (nI k))]) (hcells : cells + 3 ≤ room_1.cells) (hslots : slots + 107 ≤ room_1.slots) (hB : LO_21 Inv n K Mc Mm (xs (k + 1)) (xs (k + 2)) (xs (k + 3)) (xs (k + 4)) (xs (k + 5)))
    (kk : ∀ (K1 : Nat) (ad1 : Nat → Nat) (Mc1 Mm1 : Mem) (H : Heap) (locs : List Loc) (ls : Array Slot), Inv (n + 1) K1 Mc1 Mm1 → LZ T D ad1 K1 am s Mc1 Mm1 H locs → lv_has ls 4 [(0, .ref b), (1, .ref (ad1 0)), (2, .ref (am 0)), (3, .int (nI k))] → W p l e room_1 s m args below meth c H locs (cells + 3) (slots + 107) Q (F0 m 1476 ls [])) : W p l e room_1 s m args below meth c H locs cells slots Q (F0 m 877 ls []) := by
  have hx := C.x
  have hb := C.b
  have hcs : cells + 0 ≤ room_1.cells ∧ slots + 0 ≤ room_1.slots := ⟨Nat.le_trans (Nat.le_add_right _ _) hcells, Nat.le_trans (Nat.le_add_right _ _) hslots⟩
  delta LO_21 at hB
  refine lv_aload_n hx hb dL_law_877 rfl (lv_at hl 1 rfl) ?_
  refine lv_aload_n hx hb dL_law_878 rfl (lv_at hl 0 rfl) ?_
  refine lv_iload_n hx hb dL_law_879 rfl (lv_at hl 3 rfl) ?_
  refine lv_iconst (v := 1) hx hb dL_law_880 (by decide) ?_
  refine lv_iadd hx hb dL_law_881 ?_
  refine s_ld (k := k) (j := 1) C.1 hX hbl Z.2.2.2.2.2.2.2 (by omega) hL (nI_add k 1) dL_law_882 ?_
  refine lk_C (rn_V (n := 1) (As := [.int (xs (k + 1))]) (rest := []) (c_X11_loose hB) rfl rfl tw_4_57 tw_4_55 tw_4_56 tw_1_1 ⟨rfl, by decide, by decide, by decide +kernel⟩ rfl blW (rcC Z C) (fun U hU hW => ⟨rfl, lpC (SA := SA) Z C hU hW⟩) C.1 hl.1 tw_4_54 ⟨(Nat.le_of_ble_eq_true rfl), (Nat.le_of_ble_eq_true rfl)⟩ hcs (Nat.le_of_ble_eq_true rfl) rfl dL_law_883) Z (fun r M1 H locs hB Z => ?_)
  refine lv_aload_n hx hb dL_law_886 rfl (lv_at hl 2 rfl) ?_
  refine lv_aload_n hx hb dL_law_887 rfl (lv_at hl 0 rfl) ?_
  refine lv_iload_n hx hb dL_law_888 rfl (lv_at hl 3 rfl) ?_
  refine lv_iconst (v := 1) hx hb dL_law_889 (by decide) ?_
  refine lv_iadd hx hb dL_law_890 ?_
  refine s_ld (k := k) (j := 1) C.1 hX hbl Z.2.2.2.2.2.2.2 (by omega) hL (nI_add k 1) dL_law_891 ?_
  refine lk_M (rn_V (n := 1) (As := [.int (xs (k + 1))]) (rest := [.int r]) (c_X12_loose hB) rfl rfl tw_6_208 tw_6_206 tw_6_207 tw_1_12 ⟨rfl, by decide, by decide, by decide +kernel⟩ rfl blW (rcM Z C) (fun U hU hW => ⟨rfl, lpM Z C hU hW⟩) C.1 hl.1 tw_6_205 ⟨(Nat.le_of_ble_eq_true rfl), (Nat.le_of_ble_eq_true rfl)⟩ hcs (Nat.le_of_ble_eq_true rfl) rfl dL_law_892) Z (fun r2 M2 H locs hB Z => ?_)
  refine lv_icmp_eq (tgt := 1476) hx hb dL_law_895 (by decide) (fun _ => ?_) (fun q => absurd hB.1 q)
  refine W.widen (k := cells + 3) (n := slots + 107) (Nat.le_add_right _ _) (Nat.le_add_right _ _) ?_
  exact kk K ad M1 M2 H locs ls hB.2 Z hl
set_option maxRecDepth 100000 in
set_option maxHeartbeats 4000000 in
theorem lc_22 (C : Cx T D p s m args c code 4 "OneOfTwoLaw") (hX : va_X b L xs s s.heap) (hbl : b < s.heap.size) (hk : k + 6 ≤ L) (hL : L ≤ 3072) (Z : LZ T D ad K am s Mc Mm H locs) (hXS : XS SA (fun q => s.heap.size ≤ q) s s.heap) (hO : AOs s) {ls : Array Slot} (hl : lv_has ls 4 [(0, .ref b), (1, .ref (ad 0)), (2, .ref (am 0)), (3, .int (nI k))]) (hcells : cells + 3 ≤ room_1.cells) (hslots : slots + 107 ≤ room_1.slots) (hB : LO_22 Inv n K Mc Mm (xs (k + 1)) (xs (k + 2)) (xs (k + 3)) (xs (k + 4)) (xs (k + 5)))
    (kk : ∀ (K1 : Nat) (ad1 : Nat → Nat) (Mc1 Mm1 : Mem) (H : Heap) (locs : List Loc) (ls : Array Slot), Inv (n + 1) K1 Mc1 Mm1 → LZ T D ad1 K1 am s Mc1 Mm1 H locs → lv_has ls 4 [(0, .ref b), (1, .ref (ad1 0)), (2, .ref (am 0)), (3, .int (nI k))] → W p l e room_1 s m args below meth c H locs (cells + 3) (slots + 107) Q (F0 m 1476 ls [])) : W p l e room_1 s m args below meth c H locs cells slots Q (F0 m 900 ls []) := by
  have hx := C.x
  have hb := C.b
  have hcs : cells + 0 ≤ room_1.cells ∧ slots + 0 ≤ room_1.slots := ⟨Nat.le_trans (Nat.le_add_right _ _) hcells, Nat.le_trans (Nat.le_add_right _ _) hslots⟩
  delta LO_22 at hB
  refine lv_aload_n hx hb dL_law_900 rfl (lv_at hl 1 rfl) ?_
  refine lv_aload_n hx hb dL_law_901 rfl (lv_at hl 0 rfl) ?_
  refine lv_iload_n hx hb dL_law_902 rfl (lv_at hl 3 rfl) ?_
  refine lv_iconst (v := 1) hx hb dL_law_903 (by decide) ?_
  refine lv_iadd hx hb dL_law_904 ?_
  refine s_ld (k := k) (j := 1) C.1 hX hbl Z.2.2.2.2.2.2.2 (by omega) hL (nI_add k 1) dL_law_905 ?_
  refine lk_C (rn_V (n := 1) (As := [.int (xs (k + 1))]) (rest := []) (c_X11_hour hB) rfl rfl tw_4_70 tw_4_68 tw_4_69 tw_1_1 ⟨rfl, by decide, by decide, by decide +kernel⟩ rfl blW (rcC Z C) (fun U hU hW => ⟨rfl, lpC (SA := SA) Z C hU hW⟩) C.1 hl.1 tw_4_67 ⟨(Nat.le_of_ble_eq_true rfl), (Nat.le_of_ble_eq_true rfl)⟩ hcs (Nat.le_of_ble_eq_true rfl) rfl dL_law_906) Z (fun r M1 H locs hB Z => ?_)
  refine lv_aload_n hx hb dL_law_909 rfl (lv_at hl 2 rfl) ?_
  refine lv_aload_n hx hb dL_law_910 rfl (lv_at hl 0 rfl) ?_
  refine lv_iload_n hx hb dL_law_911 rfl (lv_at hl 3 rfl) ?_
  refine lv_iconst (v := 1) hx hb dL_law_912 (by decide) ?_
  refine lv_iadd hx hb dL_law_913 ?_
  refine s_ld (k := k) (j := 1) C.1 hX hbl Z.2.2.2.2.2.2.2 (by omega) hL (nI_add k 1) dL_law_914 ?_
  refine lk_M (rn_V (n := 1) (As := [.int (xs (k + 1))]) (rest := [.int r]) (c_X12_hour hB) rfl rfl tw_6_217 tw_6_215 tw_6_216 tw_1_12 ⟨rfl, by decide, by decide, by decide +kernel⟩ rfl blW (rcM Z C) (fun U hU hW => ⟨rfl, lpM Z C hU hW⟩) C.1 hl.1 tw_6_214 ⟨(Nat.le_of_ble_eq_true rfl), (Nat.le_of_ble_eq_true rfl)⟩ hcs (Nat.le_of_ble_eq_true rfl) rfl dL_law_915) Z (fun r2 M2 H locs hB Z => ?_)
  refine lv_icmp_eq (tgt := 1476) hx hb dL_law_918 (by decide) (fun _ => ?_) (fun q => absurd hB.1 q)
  refine W.widen (k := cells + 3) (n := slots + 107) (Nat.le_add_right _ _) (Nat.le_add_right _ _) ?_
  exact kk K ad M1 M2 H locs ls hB.2 Z hl
set_option maxRecDepth 100000 in
set_option maxHeartbeats 4000000 in
theorem lc_23 (C : Cx T D p s m args c code 4 "OneOfTwoLaw") (hX : va_X b L xs s s.heap) (hbl : b < s.heap.size) (hk : k + 6 ≤ L) (hL : L ≤ 3072) (Z : LZ T D ad K am s Mc Mm H locs) (hXS : XS SA (fun q => s.heap.size ≤ q) s s.heap) (hO : AOs s) {ls : Array Slot} (hl : lv_has ls 4 [(0, .ref b), (1, .ref (ad 0)), (2, .ref (am 0)), (3, .int (nI k))]) (hcells : cells + 3 ≤ room_1.cells) (hslots : slots + 107 ≤ room_1.slots) (hB : LO_23 Inv n K Mc Mm (xs (k + 1)) (xs (k + 2)) (xs (k + 3)) (xs (k + 4)) (xs (k + 5)))
    (kk : ∀ (K1 : Nat) (ad1 : Nat → Nat) (Mc1 Mm1 : Mem) (H : Heap) (locs : List Loc) (ls : Array Slot), Inv (n + 1) K1 Mc1 Mm1 → LZ T D ad1 K1 am s Mc1 Mm1 H locs → lv_has ls 4 [(0, .ref b), (1, .ref (ad1 0)), (2, .ref (am 0)), (3, .int (nI k))] → W p l e room_1 s m args below meth c H locs (cells + 3) (slots + 107) Q (F0 m 1476 ls [])) : W p l e room_1 s m args below meth c H locs cells slots Q (F0 m 923 ls []) := by
  have hx := C.x
  have hb := C.b
  have hcs : cells + 0 ≤ room_1.cells ∧ slots + 0 ≤ room_1.slots := ⟨Nat.le_trans (Nat.le_add_right _ _) hcells, Nat.le_trans (Nat.le_add_right _ _) hslots⟩
  delta LO_23 at hB
  refine lv_aload_n hx hb dL_law_923 rfl (lv_at hl 1 rfl) ?_
  refine lv_aload_n hx hb dL_law_924 rfl (lv_at hl 0 rfl) ?_
  refine lv_iload_n hx hb dL_law_925 rfl (lv_at hl 3 rfl) ?_
  refine lv_iconst (v := 1) hx hb dL_law_926 (by decide) ?_
  refine lv_iadd hx hb dL_law_927 ?_
  refine s_ld (k := k) (j := 1) C.1 hX hbl Z.2.2.2.2.2.2.2 (by omega) hL (nI_add k 1) dL_law_928 ?_
  refine lv_aload_n hx hb dL_law_929 rfl (lv_at hl 0 rfl) ?_
  refine lv_iload_n hx hb dL_law_930 rfl (lv_at hl 3 rfl) ?_
  refine lv_iconst (v := 2) hx hb dL_law_931 (by decide) ?_
  refine lv_iadd hx hb dL_law_932 ?_
  refine s_ld (k := k) (j := 2) C.1 hX hbl Z.2.2.2.2.2.2.2 (by omega) hL (nI_add k 2) dL_law_933 ?_
  refine lk_C (rn_V (n := 2) (As := [.int (xs (k + 1)), .int (xs (k + 2))]) (rest := []) (c_X11_lock hB) rfl rfl tw_4_74 tw_4_72 tw_4_73 tw_1_1 ⟨rfl, by decide, by decide, by decide +kernel⟩ rfl blW (rcC Z C) (fun U hU hW => ⟨rfl, lpC (SA := SA) Z C hU hW⟩) C.1 hl.1 tw_4_71 ⟨(Nat.le_of_ble_eq_true rfl), (Nat.le_of_ble_eq_true rfl)⟩ hcs (Nat.le_of_ble_eq_true rfl) rfl dL_law_934) Z (fun r M1 H locs hB Z => ?_)
  refine lv_aload_n hx hb dL_law_937 rfl (lv_at hl 2 rfl) ?_
  refine lv_aload_n hx hb dL_law_938 rfl (lv_at hl 0 rfl) ?_
  refine lv_iload_n hx hb dL_law_939 rfl (lv_at hl 3 rfl) ?_
  refine lv_iconst (v := 1) hx hb dL_law_940 (by decide) ?_
  refine lv_iadd hx hb dL_law_941 ?_
  refine s_ld (k := k) (j := 1) C.1 hX hbl Z.2.2.2.2.2.2.2 (by omega) hL (nI_add k 1) dL_law_942 ?_
  refine lv_aload_n hx hb dL_law_943 rfl (lv_at hl 0 rfl) ?_
  refine lv_iload_n hx hb dL_law_944 rfl (lv_at hl 3 rfl) ?_
  refine lv_iconst (v := 2) hx hb dL_law_945 (by decide) ?_
  refine lv_iadd hx hb dL_law_946 ?_
  refine s_ld (k := k) (j := 2) C.1 hX hbl Z.2.2.2.2.2.2.2 (by omega) hL (nI_add k 2) dL_law_947 ?_
  refine lk_M (rn_V (n := 2) (As := [.int (xs (k + 1)), .int (xs (k + 2))]) (rest := [.int r]) (c_X12_lock hB) rfl rfl tw_6_222 tw_6_220 tw_6_221 tw_1_12 ⟨rfl, by decide, by decide, by decide +kernel⟩ rfl blW (rcM Z C) (fun U hU hW => ⟨rfl, lpM Z C hU hW⟩) C.1 hl.1 tw_6_219 ⟨(Nat.le_of_ble_eq_true rfl), (Nat.le_of_ble_eq_true rfl)⟩ hcs (Nat.le_of_ble_eq_true rfl) rfl dL_law_948) Z (fun r2 M2 H locs hB Z => ?_)
  refine lv_icmp_eq (tgt := 1476) hx hb dL_law_951 (by decide) (fun _ => ?_) (fun q => absurd hB.1 q)
  refine W.widen (k := cells + 3) (n := slots + 107) (Nat.le_add_right _ _) (Nat.le_add_right _ _) ?_
  exact kk K ad M1 M2 H locs ls hB.2 Z hl
set_option maxRecDepth 100000 in
set_option maxHeartbeats 4000000 in
theorem lc_24 (C : Cx T D p s m args c code 4 "OneOfTwoLaw") (hX : va_X b L xs s s.heap) (hbl : b < s.heap.size) (hk : k + 6 ≤ L) (hL : L ≤ 3072) (Z : LZ T D ad K am s Mc Mm H locs) (hXS : XS SA (fun q => s.heap.size ≤ q) s s.heap) (hO : AOs s) {ls : Array Slot} (hl : lv_has ls 4 [(0, .ref b), (1, .ref (ad 0)), (2, .ref (am 0)), (3, .int (nI k))]) (hcells : cells + 3 ≤ room_1.cells) (hslots : slots + 107 ≤ room_1.slots) (hB : LO_24 Inv n K Mc Mm (xs (k + 1)) (xs (k + 2)) (xs (k + 3)) (xs (k + 4)) (xs (k + 5)))
    (kk : ∀ (K1 : Nat) (ad1 : Nat → Nat) (Mc1 Mm1 : Mem) (H : Heap) (locs : List Loc) (ls : Array Slot), Inv (n + 1) K1 Mc1 Mm1 → LZ T D ad1 K1 am s Mc1 Mm1 H locs → lv_has ls 4 [(0, .ref b), (1, .ref (ad1 0)), (2, .ref (am 0)), (3, .int (nI k))] → W p l e room_1 s m args below meth c H locs (cells + 3) (slots + 107) Q (F0 m 1476 ls [])) : W p l e room_1 s m args below meth c H locs cells slots Q (F0 m 956 ls []) := by
  have hx := C.x
  have hb := C.b
  have hcs : cells + 0 ≤ room_1.cells ∧ slots + 0 ≤ room_1.slots := ⟨Nat.le_trans (Nat.le_add_right _ _) hcells, Nat.le_trans (Nat.le_add_right _ _) hslots⟩
  delta LO_24 at hB
  refine lv_aload_n hx hb dL_law_956 rfl (lv_at hl 1 rfl) ?_
  refine lk_C (rn_V (n := 0) (As := []) (rest := []) (c_X11_rests hB) rfl rfl tw_4_78 tw_4_76 tw_4_77 tw_1_1 ⟨rfl, by decide, by decide, by decide +kernel⟩ rfl blW (rcC Z C) (fun U hU hW => ⟨rfl, lpC (SA := SA) Z C hU hW⟩) C.1 hl.1 tw_4_75 ⟨(Nat.le_of_ble_eq_true rfl), (Nat.le_of_ble_eq_true rfl)⟩ hcs (Nat.le_of_ble_eq_true rfl) rfl dL_law_957) Z (fun r M1 H locs hB Z => ?_)
  refine lv_aload_n hx hb dL_law_960 rfl (lv_at hl 2 rfl) ?_
  refine lk_M (rn_V (n := 0) (As := []) (rest := [.int r]) (c_X12_rests hB) rfl rfl tw_6_227 tw_6_225 tw_6_226 tw_1_12 ⟨rfl, by decide, by decide, by decide +kernel⟩ rfl blW (rcM Z C) (fun U hU hW => ⟨rfl, lpM Z C hU hW⟩) C.1 hl.1 tw_6_224 ⟨(Nat.le_of_ble_eq_true rfl), (Nat.le_of_ble_eq_true rfl)⟩ hcs (Nat.le_of_ble_eq_true rfl) rfl dL_law_961) Z (fun r2 M2 H locs hB Z => ?_)
  refine lv_icmp_eq (tgt := 1476) hx hb dL_law_964 (by decide) (fun _ => ?_) (fun q => absurd hB.1 q)
  refine W.widen (k := cells + 3) (n := slots + 107) (Nat.le_add_right _ _) (Nat.le_add_right _ _) ?_
  exact kk K ad M1 M2 H locs ls hB.2 Z hl
set_option maxRecDepth 100000 in
set_option maxHeartbeats 4000000 in
theorem lc_25 (C : Cx T D p s m args c code 4 "OneOfTwoLaw") (hX : va_X b L xs s s.heap) (hbl : b < s.heap.size) (hk : k + 6 ≤ L) (hL : L ≤ 3072) (Z : LZ T D ad K am s Mc Mm H locs) (hXS : XS SA (fun q => s.heap.size ≤ q) s s.heap) (hO : AOs s) {ls : Array Slot} (hl : lv_has ls 4 [(0, .ref b), (1, .ref (ad 0)), (2, .ref (am 0)), (3, .int (nI k))]) (hcells : cells + 3 ≤ room_1.cells) (hslots : slots + 107 ≤ room_1.slots) (hB : LO_25 Inv n K Mc Mm (xs (k + 1)) (xs (k + 2)) (xs (k + 3)) (xs (k + 4)) (xs (k + 5)))
    (kk : ∀ (K1 : Nat) (ad1 : Nat → Nat) (Mc1 Mm1 : Mem) (H : Heap) (locs : List Loc) (ls : Array Slot), Inv (n + 1) K1 Mc1 Mm1 → LZ T D ad1 K1 am s Mc1 Mm1 H locs → lv_has ls 4 [(0, .ref b), (1, .ref (ad1 0)), (2, .ref (am 0)), (3, .int (nI k))] → W p l e room_1 s m args below meth c H locs (cells + 3) (slots + 107) Q (F0 m 1476 ls [])) : W p l e room_1 s m args below meth c H locs cells slots Q (F0 m 969 ls []) := by
  have hx := C.x
  have hb := C.b
  have hcs : cells + 0 ≤ room_1.cells ∧ slots + 0 ≤ room_1.slots := ⟨Nat.le_trans (Nat.le_add_right _ _) hcells, Nat.le_trans (Nat.le_add_right _ _) hslots⟩
  delta LO_25 at hB
  refine lv_aload_n hx hb dL_law_969 rfl (lv_at hl 1 rfl) ?_
  refine lv_aload_n hx hb dL_law_970 rfl (lv_at hl 0 rfl) ?_
  refine lv_iload_n hx hb dL_law_971 rfl (lv_at hl 3 rfl) ?_
  refine lv_iconst (v := 1) hx hb dL_law_972 (by decide) ?_
  refine lv_iadd hx hb dL_law_973 ?_
  refine s_ld (k := k) (j := 1) C.1 hX hbl Z.2.2.2.2.2.2.2 (by omega) hL (nI_add k 1) dL_law_974 ?_
  refine lv_aload_n hx hb dL_law_975 rfl (lv_at hl 0 rfl) ?_
  refine lv_iload_n hx hb dL_law_976 rfl (lv_at hl 3 rfl) ?_
  refine lv_iconst (v := 2) hx hb dL_law_977 (by decide) ?_
  refine lv_iadd hx hb dL_law_978 ?_
  refine s_ld (k := k) (j := 2) C.1 hX hbl Z.2.2.2.2.2.2.2 (by omega) hL (nI_add k 2) dL_law_979 ?_
  refine lk_C (rn_V (n := 2) (As := [.int (xs (k + 1)), .int (xs (k + 2))]) (rest := []) (c_X11_then hB) rfl rfl tw_4_96 tw_4_94 tw_4_95 tw_1_1 ⟨rfl, by decide, by decide, by decide +kernel⟩ rfl blW (rcC Z C) (fun U hU hW => ⟨rfl, lpC (SA := SA) Z C hU hW⟩) C.1 hl.1 tw_4_93 ⟨(Nat.le_of_ble_eq_true rfl), (Nat.le_of_ble_eq_true rfl)⟩ hcs (Nat.le_of_ble_eq_true rfl) rfl dL_law_980) Z (fun r M1 H locs hB Z => ?_)
  refine lv_aload_n hx hb dL_law_983 rfl (lv_at hl 2 rfl) ?_
  refine lv_aload_n hx hb dL_law_984 rfl (lv_at hl 0 rfl) ?_
  refine lv_iload_n hx hb dL_law_985 rfl (lv_at hl 3 rfl) ?_
  refine lv_iconst (v := 1) hx hb dL_law_986 (by decide) ?_
  refine lv_iadd hx hb dL_law_987 ?_
  refine s_ld (k := k) (j := 1) C.1 hX hbl Z.2.2.2.2.2.2.2 (by omega) hL (nI_add k 1) dL_law_988 ?_
  refine lv_aload_n hx hb dL_law_989 rfl (lv_at hl 0 rfl) ?_
  refine lv_iload_n hx hb dL_law_990 rfl (lv_at hl 3 rfl) ?_
  refine lv_iconst (v := 2) hx hb dL_law_991 (by decide) ?_
  refine lv_iadd hx hb dL_law_992 ?_
  refine s_ld (k := k) (j := 2) C.1 hX hbl Z.2.2.2.2.2.2.2 (by omega) hL (nI_add k 2) dL_law_993 ?_
  refine lk_M (rn_V (n := 2) (As := [.int (xs (k + 1)), .int (xs (k + 2))]) (rest := [.int r]) (c_X12_then hB) rfl rfl tw_6_239 tw_6_237 tw_6_238 tw_1_12 ⟨rfl, by decide, by decide, by decide +kernel⟩ rfl blW (rcM Z C) (fun U hU hW => ⟨rfl, lpM Z C hU hW⟩) C.1 hl.1 tw_6_236 ⟨(Nat.le_of_ble_eq_true rfl), (Nat.le_of_ble_eq_true rfl)⟩ hcs (Nat.le_of_ble_eq_true rfl) rfl dL_law_994) Z (fun r2 M2 H locs hB Z => ?_)
  refine lv_icmp_eq (tgt := 1476) hx hb dL_law_997 (by decide) (fun _ => ?_) (fun q => absurd hB.1 q)
  refine W.widen (k := cells + 3) (n := slots + 107) (Nat.le_add_right _ _) (Nat.le_add_right _ _) ?_
  exact kk K ad M1 M2 H locs ls hB.2 Z hl
set_option maxRecDepth 100000 in
set_option maxHeartbeats 4000000 in
theorem lc_26 (C : Cx T D p s m args c code 4 "OneOfTwoLaw") (hX : va_X b L xs s s.heap) (hbl : b < s.heap.size) (hk : k + 6 ≤ L) (hL : L ≤ 3072) (Z : LZ T D ad K am s Mc Mm H locs) (hXS : XS SA (fun q => s.heap.size ≤ q) s s.heap) (hO : AOs s) {ls : Array Slot} (hl : lv_has ls 4 [(0, .ref b), (1, .ref (ad 0)), (2, .ref (am 0)), (3, .int (nI k))]) (hcells : cells + 3 ≤ room_1.cells) (hslots : slots + 107 ≤ room_1.slots) (hB : LO_26 Inv n K Mc Mm (xs (k + 1)) (xs (k + 2)) (xs (k + 3)) (xs (k + 4)) (xs (k + 5)))
    (kk : ∀ (K1 : Nat) (ad1 : Nat → Nat) (Mc1 Mm1 : Mem) (H : Heap) (locs : List Loc) (ls : Array Slot), Inv (n + 1) K1 Mc1 Mm1 → LZ T D ad1 K1 am s Mc1 Mm1 H locs → lv_has ls 4 [(0, .ref b), (1, .ref (ad1 0)), (2, .ref (am 0)), (3, .int (nI k))] → W p l e room_1 s m args below meth c H locs (cells + 3) (slots + 107) Q (F0 m 1476 ls [])) : W p l e room_1 s m args below meth c H locs cells slots Q (F0 m 1002 ls []) := by
  have hx := C.x
  have hb := C.b
  have hcs : cells + 0 ≤ room_1.cells ∧ slots + 0 ≤ room_1.slots := ⟨Nat.le_trans (Nat.le_add_right _ _) hcells, Nat.le_trans (Nat.le_add_right _ _) hslots⟩
  delta LO_26 at hB
  refine lv_aload_n hx hb dL_law_1002 rfl (lv_at hl 1 rfl) ?_
  refine cl_R (rn_V (n := 0) (As := []) (rest := []) (c_X11_standings hB) rfl rfl tw_4_100 tw_4_98 tw_4_99 tw_1_1 ⟨rfl, by decide, by decide, by decide +kernel⟩ rfl blR (rcC Z C) (fun U hU hW => ⟨rfl, by rw [hU]; exact Z.1, C.2.warm hW⟩) C.1 hl.1 tw_4_97 ⟨(Nat.le_of_ble_eq_true rfl), (Nat.le_of_ble_eq_true rfl)⟩ hcs (Nat.le_of_ble_eq_true rfl) rfl dL_law_1003) (fun r hB => ?_)
  refine lv_aload_n hx hb dL_law_1006 rfl (lv_at hl 2 rfl) ?_
  refine lk_M (rn_V (n := 0) (As := []) (rest := [.int r]) (c_X12_standings hB) rfl rfl tw_7_3 tw_7_1 tw_7_2 tw_1_12 ⟨rfl, by decide, by decide, by decide +kernel⟩ rfl blW (rcM Z C) (fun U hU hW => ⟨rfl, lpM Z C hU hW⟩) C.1 hl.1 tw_7_0 ⟨(Nat.le_of_ble_eq_true rfl), (Nat.le_of_ble_eq_true rfl)⟩ hcs (Nat.le_of_ble_eq_true rfl) rfl dL_law_1007) Z (fun r2 M2 H locs hB Z => ?_)
  refine lv_icmp_eq (tgt := 1476) hx hb dL_law_1010 (by decide) (fun _ => ?_) (fun q => absurd hB.1 q)
  refine W.widen (k := cells + 3) (n := slots + 107) (Nat.le_add_right _ _) (Nat.le_add_right _ _) ?_
  exact kk K ad Mc M2 H locs ls hB.2 Z hl
set_option maxRecDepth 100000 in
set_option maxHeartbeats 4000000 in
theorem lc_27 (C : Cx T D p s m args c code 4 "OneOfTwoLaw") (hX : va_X b L xs s s.heap) (hbl : b < s.heap.size) (hk : k + 6 ≤ L) (hL : L ≤ 3072) (Z : LZ T D ad K am s Mc Mm H locs) (hXS : XS SA (fun q => s.heap.size ≤ q) s s.heap) (hO : AOs s) {ls : Array Slot} (hl : lv_has ls 4 [(0, .ref b), (1, .ref (ad 0)), (2, .ref (am 0)), (3, .int (nI k))]) (hcells : cells + 3 ≤ room_1.cells) (hslots : slots + 107 ≤ room_1.slots) (hB : LO_27 Inv n K Mc Mm (xs (k + 1)) (xs (k + 2)) (xs (k + 3)) (xs (k + 4)) (xs (k + 5)))
    (kk : ∀ (K1 : Nat) (ad1 : Nat → Nat) (Mc1 Mm1 : Mem) (H : Heap) (locs : List Loc) (ls : Array Slot), Inv (n + 1) K1 Mc1 Mm1 → LZ T D ad1 K1 am s Mc1 Mm1 H locs → lv_has ls 4 [(0, .ref b), (1, .ref (ad1 0)), (2, .ref (am 0)), (3, .int (nI k))] → W p l e room_1 s m args below meth c H locs (cells + 3) (slots + 107) Q (F0 m 1476 ls [])) : W p l e room_1 s m args below meth c H locs cells slots Q (F0 m 1015 ls []) := by
  have hx := C.x
  have hb := C.b
  have hcs : cells + 0 ≤ room_1.cells ∧ slots + 0 ≤ room_1.slots := ⟨Nat.le_trans (Nat.le_add_right _ _) hcells, Nat.le_trans (Nat.le_add_right _ _) hslots⟩
  delta LO_27 at hB
  refine lv_aload_n hx hb dL_law_1015 rfl (lv_at hl 1 rfl) ?_
  refine lv_aload_n hx hb dL_law_1016 rfl (lv_at hl 0 rfl) ?_
  refine lv_iload_n hx hb dL_law_1017 rfl (lv_at hl 3 rfl) ?_
  refine lv_iconst (v := 1) hx hb dL_law_1018 (by decide) ?_
  refine lv_iadd hx hb dL_law_1019 ?_
  refine s_ld (k := k) (j := 1) C.1 hX hbl Z.2.2.2.2.2.2.2 (by omega) hL (nI_add k 1) dL_law_1020 ?_
  refine lk_C (rn_V (n := 1) (As := [.int (xs (k + 1))]) (rest := []) (c_X11_fewest hB) rfl rfl tw_4_114 tw_4_112 tw_4_113 tw_1_1 ⟨rfl, by decide, by decide, by decide +kernel⟩ rfl blW (rcC Z C) (fun U hU hW => ⟨rfl, lpC (SA := SA) Z C hU hW⟩) C.1 hl.1 tw_4_111 ⟨(Nat.le_of_ble_eq_true rfl), (Nat.le_of_ble_eq_true rfl)⟩ hcs (Nat.le_of_ble_eq_true rfl) rfl dL_law_1021) Z (fun r M1 H locs hB Z => ?_)
  refine lv_aload_n hx hb dL_law_1024 rfl (lv_at hl 2 rfl) ?_
  refine lv_aload_n hx hb dL_law_1025 rfl (lv_at hl 0 rfl) ?_
  refine lv_iload_n hx hb dL_law_1026 rfl (lv_at hl 3 rfl) ?_
  refine lv_iconst (v := 1) hx hb dL_law_1027 (by decide) ?_
  refine lv_iadd hx hb dL_law_1028 ?_
  refine s_ld (k := k) (j := 1) C.1 hX hbl Z.2.2.2.2.2.2.2 (by omega) hL (nI_add k 1) dL_law_1029 ?_
  refine lk_M (rn_V (n := 1) (As := [.int (xs (k + 1))]) (rest := [.int r]) (c_X12_fewest hB) rfl rfl tw_7_23 tw_7_21 tw_7_22 tw_1_12 ⟨rfl, by decide, by decide, by decide +kernel⟩ rfl blW (rcM Z C) (fun U hU hW => ⟨rfl, lpM Z C hU hW⟩) C.1 hl.1 tw_7_20 ⟨(Nat.le_of_ble_eq_true rfl), (Nat.le_of_ble_eq_true rfl)⟩ hcs (Nat.le_of_ble_eq_true rfl) rfl dL_law_1030) Z (fun r2 M2 H locs hB Z => ?_)
  refine lv_icmp_eq (tgt := 1476) hx hb dL_law_1033 (by decide) (fun _ => ?_) (fun q => absurd hB.1 q)
  refine W.widen (k := cells + 3) (n := slots + 107) (Nat.le_add_right _ _) (Nat.le_add_right _ _) ?_
  exact kk K ad M1 M2 H locs ls hB.2 Z hl
set_option maxRecDepth 100000 in
set_option maxHeartbeats 4000000 in
theorem lc_28 (C : Cx T D p s m args c code 4 "OneOfTwoLaw") (hX : va_X b L xs s s.heap) (hbl : b < s.heap.size) (hk : k + 6 ≤ L) (hL : L ≤ 3072) (Z : LZ T D ad K am s Mc Mm H locs) (hXS : XS SA (fun q => s.heap.size ≤ q) s s.heap) (hO : AOs s) {ls : Array Slot} (hl : lv_has ls 4 [(0, .ref b), (1, .ref (ad 0)), (2, .ref (am 0)), (3, .int (nI k))]) (hcells : cells + 3 ≤ room_1.cells) (hslots : slots + 107 ≤ room_1.slots) (hB : LO_28 Inv n K Mc Mm (xs (k + 1)) (xs (k + 2)) (xs (k + 3)) (xs (k + 4)) (xs (k + 5)))
    (kk : ∀ (K1 : Nat) (ad1 : Nat → Nat) (Mc1 Mm1 : Mem) (H : Heap) (locs : List Loc) (ls : Array Slot), Inv (n + 1) K1 Mc1 Mm1 → LZ T D ad1 K1 am s Mc1 Mm1 H locs → lv_has ls 4 [(0, .ref b), (1, .ref (ad1 0)), (2, .ref (am 0)), (3, .int (nI k))] → W p l e room_1 s m args below meth c H locs (cells + 3) (slots + 107) Q (F0 m 1476 ls [])) : W p l e room_1 s m args below meth c H locs cells slots Q (F0 m 1038 ls []) := by
  have hx := C.x
  have hb := C.b
  have hcs : cells + 0 ≤ room_1.cells ∧ slots + 0 ≤ room_1.slots := ⟨Nat.le_trans (Nat.le_add_right _ _) hcells, Nat.le_trans (Nat.le_add_right _ _) hslots⟩
  delta LO_28 at hB
  refine lv_aload_n hx hb dL_law_1038 rfl (lv_at hl 1 rfl) ?_
  refine lv_aload_n hx hb dL_law_1039 rfl (lv_at hl 0 rfl) ?_
  refine lv_iload_n hx hb dL_law_1040 rfl (lv_at hl 3 rfl) ?_
  refine lv_iconst (v := 1) hx hb dL_law_1041 (by decide) ?_
  refine lv_iadd hx hb dL_law_1042 ?_
  refine s_ld (k := k) (j := 1) C.1 hX hbl Z.2.2.2.2.2.2.2 (by omega) hL (nI_add k 1) dL_law_1043 ?_
  refine lk_C (rn_V (n := 1) (As := [.int (xs (k + 1))]) (rest := []) (c_X11_most hB) rfl rfl tw_4_163 tw_4_161 tw_4_162 tw_1_1 ⟨rfl, by decide, by decide, by decide +kernel⟩ rfl blW (rcC Z C) (fun U hU hW => ⟨rfl, lpC (SA := SA) Z C hU hW⟩) C.1 hl.1 tw_4_160 ⟨(Nat.le_of_ble_eq_true rfl), (Nat.le_of_ble_eq_true rfl)⟩ hcs (Nat.le_of_ble_eq_true rfl) rfl dL_law_1044) Z (fun r M1 H locs hB Z => ?_)
  refine lv_aload_n hx hb dL_law_1047 rfl (lv_at hl 2 rfl) ?_
  refine lv_aload_n hx hb dL_law_1048 rfl (lv_at hl 0 rfl) ?_
  refine lv_iload_n hx hb dL_law_1049 rfl (lv_at hl 3 rfl) ?_
  refine lv_iconst (v := 1) hx hb dL_law_1050 (by decide) ?_
  refine lv_iadd hx hb dL_law_1051 ?_
  refine s_ld (k := k) (j := 1) C.1 hX hbl Z.2.2.2.2.2.2.2 (by omega) hL (nI_add k 1) dL_law_1052 ?_
  refine lk_M (rn_V (n := 1) (As := [.int (xs (k + 1))]) (rest := [.int r]) (c_X12_most hB) rfl rfl tw_7_27 tw_7_25 tw_7_26 tw_1_12 ⟨rfl, by decide, by decide, by decide +kernel⟩ rfl blW (rcM Z C) (fun U hU hW => ⟨rfl, lpM Z C hU hW⟩) C.1 hl.1 tw_7_24 ⟨(Nat.le_of_ble_eq_true rfl), (Nat.le_of_ble_eq_true rfl)⟩ hcs (Nat.le_of_ble_eq_true rfl) rfl dL_law_1053) Z (fun r2 M2 H locs hB Z => ?_)
  refine lv_icmp_eq (tgt := 1476) hx hb dL_law_1056 (by decide) (fun _ => ?_) (fun q => absurd hB.1 q)
  refine W.widen (k := cells + 3) (n := slots + 107) (Nat.le_add_right _ _) (Nat.le_add_right _ _) ?_
  exact kk K ad M1 M2 H locs ls hB.2 Z hl
set_option maxRecDepth 100000 in
set_option maxHeartbeats 4000000 in
theorem lc_29 (C : Cx T D p s m args c code 4 "OneOfTwoLaw") (hX : va_X b L xs s s.heap) (hbl : b < s.heap.size) (hk : k + 6 ≤ L) (hL : L ≤ 3072) (Z : LZ T D ad K am s Mc Mm H locs) (hXS : XS SA (fun q => s.heap.size ≤ q) s s.heap) (hO : AOs s) {ls : Array Slot} (hl : lv_has ls 4 [(0, .ref b), (1, .ref (ad 0)), (2, .ref (am 0)), (3, .int (nI k))]) (hcells : cells + 3 ≤ room_1.cells) (hslots : slots + 107 ≤ room_1.slots) (hB : LO_29 Inv n K Mc Mm (xs (k + 1)) (xs (k + 2)) (xs (k + 3)) (xs (k + 4)) (xs (k + 5)))
    (kk : ∀ (K1 : Nat) (ad1 : Nat → Nat) (Mc1 Mm1 : Mem) (H : Heap) (locs : List Loc) (ls : Array Slot), Inv (n + 1) K1 Mc1 Mm1 → LZ T D ad1 K1 am s Mc1 Mm1 H locs → lv_has ls 4 [(0, .ref b), (1, .ref (ad1 0)), (2, .ref (am 0)), (3, .int (nI k))] → W p l e room_1 s m args below meth c H locs (cells + 3) (slots + 107) Q (F0 m 1476 ls [])) : W p l e room_1 s m args below meth c H locs cells slots Q (F0 m 1061 ls []) := by
  have hx := C.x
  have hb := C.b
  have hcs : cells + 0 ≤ room_1.cells ∧ slots + 0 ≤ room_1.slots := ⟨Nat.le_trans (Nat.le_add_right _ _) hcells, Nat.le_trans (Nat.le_add_right _ _) hslots⟩
  delta LO_29 at hB
  refine lv_aload_n hx hb dL_law_1061 rfl (lv_at hl 1 rfl) ?_
  refine lv_aload_n hx hb dL_law_1062 rfl (lv_at hl 0 rfl) ?_
  refine lv_iload_n hx hb dL_law_1063 rfl (lv_at hl 3 rfl) ?_
  refine lv_iconst (v := 1) hx hb dL_law_1064 (by decide) ?_
  refine lv_iadd hx hb dL_law_1065 ?_
  refine s_ld (k := k) (j := 1) C.1 hX hbl Z.2.2.2.2.2.2.2 (by omega) hL (nI_add k 1) dL_law_1066 ?_
  refine lk_C (rn_V (n := 1) (As := [.int (xs (k + 1))]) (rest := []) (c_X11_helps hB) rfl rfl tw_4_167 tw_4_165 tw_4_166 tw_1_1 ⟨rfl, by decide, by decide, by decide +kernel⟩ rfl blW (rcC Z C) (fun U hU hW => ⟨rfl, lpC (SA := SA) Z C hU hW⟩) C.1 hl.1 tw_4_164 ⟨(Nat.le_of_ble_eq_true rfl), (Nat.le_of_ble_eq_true rfl)⟩ hcs (Nat.le_of_ble_eq_true rfl) rfl dL_law_1067) Z (fun r M1 H locs hB Z => ?_)
  refine lv_aload_n hx hb dL_law_1070 rfl (lv_at hl 2 rfl) ?_
  refine lv_aload_n hx hb dL_law_1071 rfl (lv_at hl 0 rfl) ?_
  refine lv_iload_n hx hb dL_law_1072 rfl (lv_at hl 3 rfl) ?_
  refine lv_iconst (v := 1) hx hb dL_law_1073 (by decide) ?_
  refine lv_iadd hx hb dL_law_1074 ?_
  refine s_ld (k := k) (j := 1) C.1 hX hbl Z.2.2.2.2.2.2.2 (by omega) hL (nI_add k 1) dL_law_1075 ?_
  refine lk_M (rn_V (n := 1) (As := [.int (xs (k + 1))]) (rest := [.int r]) (c_X12_helps hB) rfl rfl tw_7_31 tw_7_29 tw_7_30 tw_1_12 ⟨rfl, by decide, by decide, by decide +kernel⟩ rfl blW (rcM Z C) (fun U hU hW => ⟨rfl, lpM Z C hU hW⟩) C.1 hl.1 tw_7_28 ⟨(Nat.le_of_ble_eq_true rfl), (Nat.le_of_ble_eq_true rfl)⟩ hcs (Nat.le_of_ble_eq_true rfl) rfl dL_law_1076) Z (fun r2 M2 H locs hB Z => ?_)
  refine lv_icmp_eq (tgt := 1476) hx hb dL_law_1079 (by decide) (fun _ => ?_) (fun q => absurd hB.1 q)
  refine W.widen (k := cells + 3) (n := slots + 107) (Nat.le_add_right _ _) (Nat.le_add_right _ _) ?_
  exact kk K ad M1 M2 H locs ls hB.2 Z hl
set_option maxRecDepth 100000 in
set_option maxHeartbeats 4000000 in
theorem lc_30 (C : Cx T D p s m args c code 4 "OneOfTwoLaw") (hX : va_X b L xs s s.heap) (hbl : b < s.heap.size) (hk : k + 6 ≤ L) (hL : L ≤ 3072) (Z : LZ T D ad K am s Mc Mm H locs) (hXS : XS SA (fun q => s.heap.size ≤ q) s s.heap) (hO : AOs s) {ls : Array Slot} (hl : lv_has ls 4 [(0, .ref b), (1, .ref (ad 0)), (2, .ref (am 0)), (3, .int (nI k))]) (hcells : cells + 3 ≤ room_1.cells) (hslots : slots + 107 ≤ room_1.slots) (hB : LO_30 Inv n K Mc Mm (xs (k + 1)) (xs (k + 2)) (xs (k + 3)) (xs (k + 4)) (xs (k + 5)))
    (kk : ∀ (K1 : Nat) (ad1 : Nat → Nat) (Mc1 Mm1 : Mem) (H : Heap) (locs : List Loc) (ls : Array Slot), Inv (n + 1) K1 Mc1 Mm1 → LZ T D ad1 K1 am s Mc1 Mm1 H locs → lv_has ls 4 [(0, .ref b), (1, .ref (ad1 0)), (2, .ref (am 0)), (3, .int (nI k))] → W p l e room_1 s m args below meth c H locs (cells + 3) (slots + 107) Q (F0 m 1476 ls [])) : W p l e room_1 s m args below meth c H locs cells slots Q (F0 m 1084 ls []) := by
  have hx := C.x
  have hb := C.b
  have hcs : cells + 0 ≤ room_1.cells ∧ slots + 0 ≤ room_1.slots := ⟨Nat.le_trans (Nat.le_add_right _ _) hcells, Nat.le_trans (Nat.le_add_right _ _) hslots⟩
  delta LO_30 at hB
  refine lv_aload_n hx hb dL_law_1084 rfl (lv_at hl 1 rfl) ?_
  refine lv_aload_n hx hb dL_law_1085 rfl (lv_at hl 0 rfl) ?_
  refine lv_iload_n hx hb dL_law_1086 rfl (lv_at hl 3 rfl) ?_
  refine lv_iconst (v := 1) hx hb dL_law_1087 (by decide) ?_
  refine lv_iadd hx hb dL_law_1088 ?_
  refine s_ld (k := k) (j := 1) C.1 hX hbl Z.2.2.2.2.2.2.2 (by omega) hL (nI_add k 1) dL_law_1089 ?_
  refine lk_C (rn_V (n := 1) (As := [.int (xs (k + 1))]) (rest := []) (c_X11_who hB) rfl rfl tw_4_175 tw_4_173 tw_4_174 tw_1_1 ⟨rfl, by decide, by decide, by decide +kernel⟩ rfl blW (rcC Z C) (fun U hU hW => ⟨rfl, lpC (SA := SA) Z C hU hW⟩) C.1 hl.1 tw_4_172 ⟨(Nat.le_of_ble_eq_true rfl), (Nat.le_of_ble_eq_true rfl)⟩ hcs (Nat.le_of_ble_eq_true rfl) rfl dL_law_1090) Z (fun r M1 H locs hB Z => ?_)
  refine lv_aload_n hx hb dL_law_1093 rfl (lv_at hl 2 rfl) ?_
  refine lv_aload_n hx hb dL_law_1094 rfl (lv_at hl 0 rfl) ?_
  refine lv_iload_n hx hb dL_law_1095 rfl (lv_at hl 3 rfl) ?_
  refine lv_iconst (v := 1) hx hb dL_law_1096 (by decide) ?_
  refine lv_iadd hx hb dL_law_1097 ?_
  refine s_ld (k := k) (j := 1) C.1 hX hbl Z.2.2.2.2.2.2.2 (by omega) hL (nI_add k 1) dL_law_1098 ?_
  refine lk_M (rn_V (n := 1) (As := [.int (xs (k + 1))]) (rest := [.int r]) (c_X12_who hB) rfl rfl tw_7_39 tw_7_37 tw_7_38 tw_1_12 ⟨rfl, by decide, by decide, by decide +kernel⟩ rfl blW (rcM Z C) (fun U hU hW => ⟨rfl, lpM Z C hU hW⟩) C.1 hl.1 tw_7_36 ⟨(Nat.le_of_ble_eq_true rfl), (Nat.le_of_ble_eq_true rfl)⟩ hcs (Nat.le_of_ble_eq_true rfl) rfl dL_law_1099) Z (fun r2 M2 H locs hB Z => ?_)
  refine lv_icmp_eq (tgt := 1476) hx hb dL_law_1102 (by decide) (fun _ => ?_) (fun q => absurd hB.1 q)
  refine W.widen (k := cells + 3) (n := slots + 107) (Nat.le_add_right _ _) (Nat.le_add_right _ _) ?_
  exact kk K ad M1 M2 H locs ls hB.2 Z hl
set_option maxRecDepth 100000 in
set_option maxHeartbeats 4000000 in
theorem lc_31 (C : Cx T D p s m args c code 4 "OneOfTwoLaw") (hX : va_X b L xs s s.heap) (hbl : b < s.heap.size) (hk : k + 6 ≤ L) (hL : L ≤ 3072) (Z : LZ T D ad K am s Mc Mm H locs) (hXS : XS SA (fun q => s.heap.size ≤ q) s s.heap) (hO : AOs s) {ls : Array Slot} (hl : lv_has ls 4 [(0, .ref b), (1, .ref (ad 0)), (2, .ref (am 0)), (3, .int (nI k))]) (hcells : cells + 3 ≤ room_1.cells) (hslots : slots + 107 ≤ room_1.slots) (hB : LO_31 Inv n K Mc Mm (xs (k + 1)) (xs (k + 2)) (xs (k + 3)) (xs (k + 4)) (xs (k + 5)))
    (kk : ∀ (K1 : Nat) (ad1 : Nat → Nat) (Mc1 Mm1 : Mem) (H : Heap) (locs : List Loc) (ls : Array Slot), Inv (n + 1) K1 Mc1 Mm1 → LZ T D ad1 K1 am s Mc1 Mm1 H locs → lv_has ls 4 [(0, .ref b), (1, .ref (ad1 0)), (2, .ref (am 0)), (3, .int (nI k))] → W p l e room_1 s m args below meth c H locs (cells + 3) (slots + 107) Q (F0 m 1476 ls [])) : W p l e room_1 s m args below meth c H locs cells slots Q (F0 m 1107 ls []) := by
  have hx := C.x
  have hb := C.b
  have hcs : cells + 0 ≤ room_1.cells ∧ slots + 0 ≤ room_1.slots := ⟨Nat.le_trans (Nat.le_add_right _ _) hcells, Nat.le_trans (Nat.le_add_right _ _) hslots⟩
  delta LO_31 at hB
  refine lv_aload_n hx hb dL_law_1107 rfl (lv_at hl 1 rfl) ?_
  refine lv_aload_n hx hb dL_law_1108 rfl (lv_at hl 0 rfl) ?_
  refine lv_iload_n hx hb dL_law_1109 rfl (lv_at hl 3 rfl) ?_
  refine lv_iconst (v := 1) hx hb dL_law_1110 (by decide) ?_
  refine lv_iadd hx hb dL_law_1111 ?_
  refine s_ld (k := k) (j := 1) C.1 hX hbl Z.2.2.2.2.2.2.2 (by omega) hL (nI_add k 1) dL_law_1112 ?_
  refine lk_C (rn_V (n := 1) (As := [.int (xs (k + 1))]) (rest := []) (c_X11_seed hB) rfl rfl tw_4_190 tw_4_188 tw_4_189 tw_1_1 ⟨rfl, by decide, by decide, by decide +kernel⟩ rfl blW (rcC Z C) (fun U hU hW => ⟨rfl, lpC (SA := SA) Z C hU hW⟩) C.1 hl.1 tw_4_187 ⟨(Nat.le_of_ble_eq_true rfl), (Nat.le_of_ble_eq_true rfl)⟩ hcs (Nat.le_of_ble_eq_true rfl) rfl dL_law_1113) Z (fun r M1 H locs hB Z => ?_)
  refine lv_aload_n hx hb dL_law_1116 rfl (lv_at hl 2 rfl) ?_
  refine lv_aload_n hx hb dL_law_1117 rfl (lv_at hl 0 rfl) ?_
  refine lv_iload_n hx hb dL_law_1118 rfl (lv_at hl 3 rfl) ?_
  refine lv_iconst (v := 1) hx hb dL_law_1119 (by decide) ?_
  refine lv_iadd hx hb dL_law_1120 ?_
  refine s_ld (k := k) (j := 1) C.1 hX hbl Z.2.2.2.2.2.2.2 (by omega) hL (nI_add k 1) dL_law_1121 ?_
  refine lk_M (rn_V (n := 1) (As := [.int (xs (k + 1))]) (rest := [.int r]) (c_X12_seed hB) rfl rfl tw_7_46 tw_7_44 tw_7_45 tw_1_12 ⟨rfl, by decide, by decide, by decide +kernel⟩ rfl blW (rcM Z C) (fun U hU hW => ⟨rfl, lpM Z C hU hW⟩) C.1 hl.1 tw_7_43 ⟨(Nat.le_of_ble_eq_true rfl), (Nat.le_of_ble_eq_true rfl)⟩ hcs (Nat.le_of_ble_eq_true rfl) rfl dL_law_1122) Z (fun r2 M2 H locs hB Z => ?_)
  refine lv_icmp_eq (tgt := 1476) hx hb dL_law_1125 (by decide) (fun _ => ?_) (fun q => absurd hB.1 q)
  refine W.widen (k := cells + 3) (n := slots + 107) (Nat.le_add_right _ _) (Nat.le_add_right _ _) ?_
  exact kk K ad M1 M2 H locs ls hB.2 Z hl
set_option maxRecDepth 100000 in
set_option maxHeartbeats 4000000 in
theorem lc_32 (C : Cx T D p s m args c code 4 "OneOfTwoLaw") (hX : va_X b L xs s s.heap) (hbl : b < s.heap.size) (hk : k + 6 ≤ L) (hL : L ≤ 3072) (Z : LZ T D ad K am s Mc Mm H locs) (hXS : XS SA (fun q => s.heap.size ≤ q) s s.heap) (hO : AOs s) {ls : Array Slot} (hl : lv_has ls 4 [(0, .ref b), (1, .ref (ad 0)), (2, .ref (am 0)), (3, .int (nI k))]) (hcells : cells + 3 ≤ room_1.cells) (hslots : slots + 107 ≤ room_1.slots) (hB : LO_32 Inv n K Mc Mm (xs (k + 1)) (xs (k + 2)) (xs (k + 3)) (xs (k + 4)) (xs (k + 5)))
    (kk : ∀ (K1 : Nat) (ad1 : Nat → Nat) (Mc1 Mm1 : Mem) (H : Heap) (locs : List Loc) (ls : Array Slot), Inv (n + 1) K1 Mc1 Mm1 → LZ T D ad1 K1 am s Mc1 Mm1 H locs → lv_has ls 4 [(0, .ref b), (1, .ref (ad1 0)), (2, .ref (am 0)), (3, .int (nI k))] → W p l e room_1 s m args below meth c H locs (cells + 3) (slots + 107) Q (F0 m 1476 ls [])) : W p l e room_1 s m args below meth c H locs cells slots Q (F0 m 1130 ls []) := by
  have hx := C.x
  have hb := C.b
  have hcs : cells + 0 ≤ room_1.cells ∧ slots + 0 ≤ room_1.slots := ⟨Nat.le_trans (Nat.le_add_right _ _) hcells, Nat.le_trans (Nat.le_add_right _ _) hslots⟩
  delta LO_32 at hB
  refine lv_aload_n hx hb dL_law_1130 rfl (lv_at hl 1 rfl) ?_
  refine lv_aload_n hx hb dL_law_1131 rfl (lv_at hl 0 rfl) ?_
  refine lv_iload_n hx hb dL_law_1132 rfl (lv_at hl 3 rfl) ?_
  refine lv_iconst (v := 1) hx hb dL_law_1133 (by decide) ?_
  refine lv_iadd hx hb dL_law_1134 ?_
  refine s_ld (k := k) (j := 1) C.1 hX hbl Z.2.2.2.2.2.2.2 (by omega) hL (nI_add k 1) dL_law_1135 ?_
  refine lv_aload_n hx hb dL_law_1136 rfl (lv_at hl 0 rfl) ?_
  refine lv_iload_n hx hb dL_law_1137 rfl (lv_at hl 3 rfl) ?_
  refine lv_iconst (v := 2) hx hb dL_law_1138 (by decide) ?_
  refine lv_iadd hx hb dL_law_1139 ?_
  refine s_ld (k := k) (j := 2) C.1 hX hbl Z.2.2.2.2.2.2.2 (by omega) hL (nI_add k 2) dL_law_1140 ?_
  refine lv_aload_n hx hb dL_law_1141 rfl (lv_at hl 0 rfl) ?_
  refine lv_iload_n hx hb dL_law_1142 rfl (lv_at hl 3 rfl) ?_
  refine lv_iconst (v := 3) hx hb dL_law_1143 (by decide) ?_
  refine lv_iadd hx hb dL_law_1144 ?_
  refine s_ld (k := k) (j := 3) C.1 hX hbl Z.2.2.2.2.2.2.2 (by omega) hL (nI_add k 3) dL_law_1145 ?_
  refine lk_C (rn_V (n := 3) (As := [.int (xs (k + 1)), .int (xs (k + 2)), .int (xs (k + 3))]) (rest := []) (c_X11_voice hB) rfl rfl tw_4_194 tw_4_192 tw_4_193 tw_1_1 ⟨rfl, by decide, by decide, by decide +kernel⟩ rfl blW (rcC Z C) (fun U hU hW => ⟨rfl, lpC (SA := SA) Z C hU hW⟩) C.1 hl.1 tw_4_191 ⟨(Nat.le_of_ble_eq_true rfl), (Nat.le_of_ble_eq_true rfl)⟩ hcs (Nat.le_of_ble_eq_true rfl) rfl dL_law_1146) Z (fun r M1 H locs hB Z => ?_)
  refine lv_aload_n hx hb dL_law_1149 rfl (lv_at hl 2 rfl) ?_
  refine lv_aload_n hx hb dL_law_1150 rfl (lv_at hl 0 rfl) ?_
  refine lv_iload_n hx hb dL_law_1151 rfl (lv_at hl 3 rfl) ?_
  refine lv_iconst (v := 1) hx hb dL_law_1152 (by decide) ?_
  refine lv_iadd hx hb dL_law_1153 ?_
  refine s_ld (k := k) (j := 1) C.1 hX hbl Z.2.2.2.2.2.2.2 (by omega) hL (nI_add k 1) dL_law_1154 ?_
  refine lv_aload_n hx hb dL_law_1155 rfl (lv_at hl 0 rfl) ?_
  refine lv_iload_n hx hb dL_law_1156 rfl (lv_at hl 3 rfl) ?_
  refine lv_iconst (v := 2) hx hb dL_law_1157 (by decide) ?_
  refine lv_iadd hx hb dL_law_1158 ?_
  refine s_ld (k := k) (j := 2) C.1 hX hbl Z.2.2.2.2.2.2.2 (by omega) hL (nI_add k 2) dL_law_1159 ?_
  refine lv_aload_n hx hb dL_law_1160 rfl (lv_at hl 0 rfl) ?_
  refine lv_iload_n hx hb dL_law_1161 rfl (lv_at hl 3 rfl) ?_
  refine lv_iconst (v := 3) hx hb dL_law_1162 (by decide) ?_
  refine lv_iadd hx hb dL_law_1163 ?_
  refine s_ld (k := k) (j := 3) C.1 hX hbl Z.2.2.2.2.2.2.2 (by omega) hL (nI_add k 3) dL_law_1164 ?_
  refine lk_M (rn_V (n := 3) (As := [.int (xs (k + 1)), .int (xs (k + 2)), .int (xs (k + 3))]) (rest := [.int r]) (c_X12_voice hB) rfl rfl tw_7_50 tw_7_48 tw_7_49 tw_1_12 ⟨rfl, by decide, by decide, by decide +kernel⟩ rfl blW (rcM Z C) (fun U hU hW => ⟨rfl, lpM Z C hU hW⟩) C.1 hl.1 tw_7_47 ⟨(Nat.le_of_ble_eq_true rfl), (Nat.le_of_ble_eq_true rfl)⟩ hcs (Nat.le_of_ble_eq_true rfl) rfl dL_law_1165) Z (fun r2 M2 H locs hB Z => ?_)
  refine lv_icmp_eq (tgt := 1476) hx hb dL_law_1168 (by decide) (fun _ => ?_) (fun q => absurd hB.1 q)
  refine W.widen (k := cells + 3) (n := slots + 107) (Nat.le_add_right _ _) (Nat.le_add_right _ _) ?_
  exact kk K ad M1 M2 H locs ls hB.2 Z hl
set_option maxRecDepth 100000 in
set_option maxHeartbeats 4000000 in
theorem lc_33 (C : Cx T D p s m args c code 4 "OneOfTwoLaw") (hX : va_X b L xs s s.heap) (hbl : b < s.heap.size) (hk : k + 6 ≤ L) (hL : L ≤ 3072) (Z : LZ T D ad K am s Mc Mm H locs) (hXS : XS SA (fun q => s.heap.size ≤ q) s s.heap) (hO : AOs s) {ls : Array Slot} (hl : lv_has ls 4 [(0, .ref b), (1, .ref (ad 0)), (2, .ref (am 0)), (3, .int (nI k))]) (hcells : cells + 3 ≤ room_1.cells) (hslots : slots + 107 ≤ room_1.slots) (hB : LO_33 Inv n K Mc Mm (xs (k + 1)) (xs (k + 2)) (xs (k + 3)) (xs (k + 4)) (xs (k + 5)))
    (kk : ∀ (K1 : Nat) (ad1 : Nat → Nat) (Mc1 Mm1 : Mem) (H : Heap) (locs : List Loc) (ls : Array Slot), Inv (n + 1) K1 Mc1 Mm1 → LZ T D ad1 K1 am s Mc1 Mm1 H locs → lv_has ls 4 [(0, .ref b), (1, .ref (ad1 0)), (2, .ref (am 0)), (3, .int (nI k))] → W p l e room_1 s m args below meth c H locs (cells + 3) (slots + 107) Q (F0 m 1476 ls [])) : W p l e room_1 s m args below meth c H locs cells slots Q (F0 m 1173 ls []) := by
  have hx := C.x
  have hb := C.b
  have hcs : cells + 0 ≤ room_1.cells ∧ slots + 0 ≤ room_1.slots := ⟨Nat.le_trans (Nat.le_add_right _ _) hcells, Nat.le_trans (Nat.le_add_right _ _) hslots⟩
  delta LO_33 at hB
  refine lv_aload_n hx hb dL_law_1173 rfl (lv_at hl 1 rfl) ?_
  refine lv_aload_n hx hb dL_law_1174 rfl (lv_at hl 0 rfl) ?_
  refine lv_iload_n hx hb dL_law_1175 rfl (lv_at hl 3 rfl) ?_
  refine lv_iconst (v := 1) hx hb dL_law_1176 (by decide) ?_
  refine lv_iadd hx hb dL_law_1177 ?_
  refine s_ld (k := k) (j := 1) C.1 hX hbl Z.2.2.2.2.2.2.2 (by omega) hL (nI_add k 1) dL_law_1178 ?_
  refine lk_C (rn_V (n := 1) (As := [.int (xs (k + 1))]) (rest := []) (c_X11_trace hB) rfl rfl tw_5_41 tw_5_39 tw_5_40 tw_1_1 ⟨rfl, by decide, by decide, by decide +kernel⟩ rfl blW (rcC Z C) (fun U hU hW => ⟨rfl, lpC (SA := SA) Z C hU hW⟩) C.1 hl.1 tw_5_38 ⟨(Nat.le_of_ble_eq_true rfl), (Nat.le_of_ble_eq_true rfl)⟩ hcs (Nat.le_of_ble_eq_true rfl) rfl dL_law_1179) Z (fun r M1 H locs hB Z => ?_)
  refine lv_aload_n hx hb dL_law_1182 rfl (lv_at hl 2 rfl) ?_
  refine lv_aload_n hx hb dL_law_1183 rfl (lv_at hl 0 rfl) ?_
  refine lv_iload_n hx hb dL_law_1184 rfl (lv_at hl 3 rfl) ?_
  refine lv_iconst (v := 1) hx hb dL_law_1185 (by decide) ?_
  refine lv_iadd hx hb dL_law_1186 ?_
  refine s_ld (k := k) (j := 1) C.1 hX hbl Z.2.2.2.2.2.2.2 (by omega) hL (nI_add k 1) dL_law_1187 ?_
  refine lk_M (rn_V (n := 1) (As := [.int (xs (k + 1))]) (rest := [.int r]) (c_X12_trace hB) rfl rfl tw_7_78 tw_7_76 tw_7_77 tw_1_12 ⟨rfl, by decide, by decide, by decide +kernel⟩ rfl blW (rcM Z C) (fun U hU hW => ⟨rfl, lpM Z C hU hW⟩) C.1 hl.1 tw_7_75 ⟨(Nat.le_of_ble_eq_true rfl), (Nat.le_of_ble_eq_true rfl)⟩ hcs (Nat.le_of_ble_eq_true rfl) rfl dL_law_1188) Z (fun r2 M2 H locs hB Z => ?_)
  refine lv_icmp_eq (tgt := 1476) hx hb dL_law_1191 (by decide) (fun _ => ?_) (fun q => absurd hB.1 q)
  refine W.widen (k := cells + 3) (n := slots + 107) (Nat.le_add_right _ _) (Nat.le_add_right _ _) ?_
  exact kk K ad M1 M2 H locs ls hB.2 Z hl
set_option maxRecDepth 100000 in
set_option maxHeartbeats 4000000 in
theorem lc_34 (C : Cx T D p s m args c code 4 "OneOfTwoLaw") (hX : va_X b L xs s s.heap) (hbl : b < s.heap.size) (hk : k + 6 ≤ L) (hL : L ≤ 3072) (Z : LZ T D ad K am s Mc Mm H locs) (hXS : XS SA (fun q => s.heap.size ≤ q) s s.heap) (hO : AOs s) {ls : Array Slot} (hl : lv_has ls 4 [(0, .ref b), (1, .ref (ad 0)), (2, .ref (am 0)), (3, .int (nI k))]) (hcells : cells + 3 ≤ room_1.cells) (hslots : slots + 107 ≤ room_1.slots) (hB : LO_34 Inv n K Mc Mm (xs (k + 1)) (xs (k + 2)) (xs (k + 3)) (xs (k + 4)) (xs (k + 5)))
    (kk : ∀ (K1 : Nat) (ad1 : Nat → Nat) (Mc1 Mm1 : Mem) (H : Heap) (locs : List Loc) (ls : Array Slot), Inv (n + 1) K1 Mc1 Mm1 → LZ T D ad1 K1 am s Mc1 Mm1 H locs → lv_has ls 4 [(0, .ref b), (1, .ref (ad1 0)), (2, .ref (am 0)), (3, .int (nI k))] → W p l e room_1 s m args below meth c H locs (cells + 3) (slots + 107) Q (F0 m 1476 ls [])) : W p l e room_1 s m args below meth c H locs cells slots Q (F0 m 1196 ls []) := by
  have hx := C.x
  have hb := C.b
  have hcs : cells + 0 ≤ room_1.cells ∧ slots + 0 ≤ room_1.slots := ⟨Nat.le_trans (Nat.le_add_right _ _) hcells, Nat.le_trans (Nat.le_add_right _ _) hslots⟩
  delta LO_34 at hB
  refine lv_aload_n hx hb dL_law_1196 rfl (lv_at hl 1 rfl) ?_
  refine lv_aload_n hx hb dL_law_1197 rfl (lv_at hl 0 rfl) ?_
  refine lv_iload_n hx hb dL_law_1198 rfl (lv_at hl 3 rfl) ?_
  refine lv_iconst (v := 1) hx hb dL_law_1199 (by decide) ?_
  refine lv_iadd hx hb dL_law_1200 ?_
  refine s_ld (k := k) (j := 1) C.1 hX hbl Z.2.2.2.2.2.2.2 (by omega) hL (nI_add k 1) dL_law_1201 ?_
  refine lv_aload_n hx hb dL_law_1202 rfl (lv_at hl 0 rfl) ?_
  refine lv_iload_n hx hb dL_law_1203 rfl (lv_at hl 3 rfl) ?_
  refine lv_iconst (v := 2) hx hb dL_law_1204 (by decide) ?_
  refine lv_iadd hx hb dL_law_1205 ?_
  refine s_ld (k := k) (j := 2) C.1 hX hbl Z.2.2.2.2.2.2.2 (by omega) hL (nI_add k 2) dL_law_1206 ?_
  refine lv_aload_n hx hb dL_law_1207 rfl (lv_at hl 0 rfl) ?_
  refine lv_iload_n hx hb dL_law_1208 rfl (lv_at hl 3 rfl) ?_
  refine lv_iconst (v := 3) hx hb dL_law_1209 (by decide) ?_
  refine lv_iadd hx hb dL_law_1210 ?_
  refine s_ld (k := k) (j := 3) C.1 hX hbl Z.2.2.2.2.2.2.2 (by omega) hL (nI_add k 3) dL_law_1211 ?_
  refine lk_C (rn_V (n := 3) (As := [.int (xs (k + 1)), .int (xs (k + 2)), .int (xs (k + 3))]) (rest := []) (c_X11_sheet hB) rfl rfl tw_5_45 tw_5_43 tw_5_44 tw_1_1 ⟨rfl, by decide, by decide, by decide +kernel⟩ rfl blW (rcC Z C) (fun U hU hW => ⟨rfl, lpC (SA := SA) Z C hU hW⟩) C.1 hl.1 tw_5_42 ⟨(Nat.le_of_ble_eq_true rfl), (Nat.le_of_ble_eq_true rfl)⟩ hcs (Nat.le_of_ble_eq_true rfl) rfl dL_law_1212) Z (fun r M1 H locs hB Z => ?_)
  refine lv_aload_n hx hb dL_law_1215 rfl (lv_at hl 2 rfl) ?_
  refine lv_aload_n hx hb dL_law_1216 rfl (lv_at hl 0 rfl) ?_
  refine lv_iload_n hx hb dL_law_1217 rfl (lv_at hl 3 rfl) ?_
  refine lv_iconst (v := 1) hx hb dL_law_1218 (by decide) ?_
  refine lv_iadd hx hb dL_law_1219 ?_
  refine s_ld (k := k) (j := 1) C.1 hX hbl Z.2.2.2.2.2.2.2 (by omega) hL (nI_add k 1) dL_law_1220 ?_
  refine lv_aload_n hx hb dL_law_1221 rfl (lv_at hl 0 rfl) ?_
  refine lv_iload_n hx hb dL_law_1222 rfl (lv_at hl 3 rfl) ?_
  refine lv_iconst (v := 2) hx hb dL_law_1223 (by decide) ?_
  refine lv_iadd hx hb dL_law_1224 ?_
  refine s_ld (k := k) (j := 2) C.1 hX hbl Z.2.2.2.2.2.2.2 (by omega) hL (nI_add k 2) dL_law_1225 ?_
  refine lv_aload_n hx hb dL_law_1226 rfl (lv_at hl 0 rfl) ?_
  refine lv_iload_n hx hb dL_law_1227 rfl (lv_at hl 3 rfl) ?_
  refine lv_iconst (v := 3) hx hb dL_law_1228 (by decide) ?_
  refine lv_iadd hx hb dL_law_1229 ?_
  refine s_ld (k := k) (j := 3) C.1 hX hbl Z.2.2.2.2.2.2.2 (by omega) hL (nI_add k 3) dL_law_1230 ?_
  refine lk_M (rn_V (n := 3) (As := [.int (xs (k + 1)), .int (xs (k + 2)), .int (xs (k + 3))]) (rest := [.int r]) (c_X12_sheet hB) rfl rfl tw_7_82 tw_7_80 tw_7_81 tw_1_12 ⟨rfl, by decide, by decide, by decide +kernel⟩ rfl blW (rcM Z C) (fun U hU hW => ⟨rfl, lpM Z C hU hW⟩) C.1 hl.1 tw_7_79 ⟨(Nat.le_of_ble_eq_true rfl), (Nat.le_of_ble_eq_true rfl)⟩ hcs (Nat.le_of_ble_eq_true rfl) rfl dL_law_1231) Z (fun r2 M2 H locs hB Z => ?_)
  refine lv_icmp_eq (tgt := 1476) hx hb dL_law_1234 (by decide) (fun _ => ?_) (fun q => absurd hB.1 q)
  refine W.widen (k := cells + 3) (n := slots + 107) (Nat.le_add_right _ _) (Nat.le_add_right _ _) ?_
  exact kk K ad M1 M2 H locs ls hB.2 Z hl
set_option maxRecDepth 100000 in
set_option maxHeartbeats 4000000 in
theorem lc_35 (C : Cx T D p s m args c code 4 "OneOfTwoLaw") (hX : va_X b L xs s s.heap) (hbl : b < s.heap.size) (hk : k + 6 ≤ L) (hL : L ≤ 3072) (Z : LZ T D ad K am s Mc Mm H locs) (hXS : XS SA (fun q => s.heap.size ≤ q) s s.heap) (hO : AOs s) {ls : Array Slot} (hl : lv_has ls 4 [(0, .ref b), (1, .ref (ad 0)), (2, .ref (am 0)), (3, .int (nI k))]) (hcells : cells + 3 ≤ room_1.cells) (hslots : slots + 107 ≤ room_1.slots) (hB : LO_35 Inv n K Mc Mm (xs (k + 1)) (xs (k + 2)) (xs (k + 3)) (xs (k + 4)) (xs (k + 5)))
    (kk : ∀ (K1 : Nat) (ad1 : Nat → Nat) (Mc1 Mm1 : Mem) (H : Heap) (locs : List Loc) (ls : Array Slot), Inv (n + 1) K1 Mc1 Mm1 → LZ T D ad1 K1 am s Mc1 Mm1 H locs → lv_has ls 4 [(0, .ref b), (1, .ref (ad1 0)), (2, .ref (am 0)), (3, .int (nI k))] → W p l e room_1 s m args below meth c H locs (cells + 3) (slots + 107) Q (F0 m 1476 ls [])) : W p l e room_1 s m args below meth c H locs cells slots Q (F0 m 1239 ls []) := by
  have hx := C.x
  have hb := C.b
  have hcs : cells + 0 ≤ room_1.cells ∧ slots + 0 ≤ room_1.slots := ⟨Nat.le_trans (Nat.le_add_right _ _) hcells, Nat.le_trans (Nat.le_add_right _ _) hslots⟩
  delta LO_35 at hB
  refine lv_aload_n hx hb dL_law_1239 rfl (lv_at hl 1 rfl) ?_
  refine lv_aload_n hx hb dL_law_1240 rfl (lv_at hl 0 rfl) ?_
  refine lv_iload_n hx hb dL_law_1241 rfl (lv_at hl 3 rfl) ?_
  refine lv_iconst (v := 1) hx hb dL_law_1242 (by decide) ?_
  refine lv_iadd hx hb dL_law_1243 ?_
  refine s_ld (k := k) (j := 1) C.1 hX hbl Z.2.2.2.2.2.2.2 (by omega) hL (nI_add k 1) dL_law_1244 ?_
  refine lv_aload_n hx hb dL_law_1245 rfl (lv_at hl 0 rfl) ?_
  refine lv_iload_n hx hb dL_law_1246 rfl (lv_at hl 3 rfl) ?_
  refine lv_iconst (v := 2) hx hb dL_law_1247 (by decide) ?_
  refine lv_iadd hx hb dL_law_1248 ?_
  refine s_ld (k := k) (j := 2) C.1 hX hbl Z.2.2.2.2.2.2.2 (by omega) hL (nI_add k 2) dL_law_1249 ?_
  refine lv_aload_n hx hb dL_law_1250 rfl (lv_at hl 0 rfl) ?_
  refine lv_iload_n hx hb dL_law_1251 rfl (lv_at hl 3 rfl) ?_
  refine lv_iconst (v := 3) hx hb dL_law_1252 (by decide) ?_
  refine lv_iadd hx hb dL_law_1253 ?_
  refine s_ld (k := k) (j := 3) C.1 hX hbl Z.2.2.2.2.2.2.2 (by omega) hL (nI_add k 3) dL_law_1254 ?_
  refine lk_C (rn_V (n := 3) (As := [.int (xs (k + 1)), .int (xs (k + 2)), .int (xs (k + 3))]) (rest := []) (c_X11_put hB) rfl rfl tw_5_54 tw_5_52 tw_5_53 tw_1_1 ⟨rfl, by decide, by decide, by decide +kernel⟩ rfl blW (rcC Z C) (fun U hU hW => ⟨rfl, lpC (SA := SA) Z C hU hW⟩) C.1 hl.1 tw_5_51 ⟨(Nat.le_of_ble_eq_true rfl), (Nat.le_of_ble_eq_true rfl)⟩ hcs (Nat.le_of_ble_eq_true rfl) rfl dL_law_1255) Z (fun r M1 H locs hB Z => ?_)
  refine lv_aload_n hx hb dL_law_1258 rfl (lv_at hl 2 rfl) ?_
  refine lv_aload_n hx hb dL_law_1259 rfl (lv_at hl 0 rfl) ?_
  refine lv_iload_n hx hb dL_law_1260 rfl (lv_at hl 3 rfl) ?_
  refine lv_iconst (v := 1) hx hb dL_law_1261 (by decide) ?_
  refine lv_iadd hx hb dL_law_1262 ?_
  refine s_ld (k := k) (j := 1) C.1 hX hbl Z.2.2.2.2.2.2.2 (by omega) hL (nI_add k 1) dL_law_1263 ?_
  refine lv_aload_n hx hb dL_law_1264 rfl (lv_at hl 0 rfl) ?_
  refine lv_iload_n hx hb dL_law_1265 rfl (lv_at hl 3 rfl) ?_
  refine lv_iconst (v := 2) hx hb dL_law_1266 (by decide) ?_
  refine lv_iadd hx hb dL_law_1267 ?_
  refine s_ld (k := k) (j := 2) C.1 hX hbl Z.2.2.2.2.2.2.2 (by omega) hL (nI_add k 2) dL_law_1268 ?_
  refine lv_aload_n hx hb dL_law_1269 rfl (lv_at hl 0 rfl) ?_
  refine lv_iload_n hx hb dL_law_1270 rfl (lv_at hl 3 rfl) ?_
  refine lv_iconst (v := 3) hx hb dL_law_1271 (by decide) ?_
  refine lv_iadd hx hb dL_law_1272 ?_
  refine s_ld (k := k) (j := 3) C.1 hX hbl Z.2.2.2.2.2.2.2 (by omega) hL (nI_add k 3) dL_law_1273 ?_
  refine lk_M (rn_V (n := 3) (As := [.int (xs (k + 1)), .int (xs (k + 2)), .int (xs (k + 3))]) (rest := [.int r]) (c_X12_put hB) rfl rfl tw_7_86 tw_7_84 tw_7_85 tw_1_12 ⟨rfl, by decide, by decide, by decide +kernel⟩ rfl blW (rcM Z C) (fun U hU hW => ⟨rfl, lpM Z C hU hW⟩) C.1 hl.1 tw_7_83 ⟨(Nat.le_of_ble_eq_true rfl), (Nat.le_of_ble_eq_true rfl)⟩ hcs (Nat.le_of_ble_eq_true rfl) rfl dL_law_1274) Z (fun r2 M2 H locs hB Z => ?_)
  refine lv_icmp_eq (tgt := 1476) hx hb dL_law_1277 (by decide) (fun _ => ?_) (fun q => absurd hB.1 q)
  refine W.widen (k := cells + 3) (n := slots + 107) (Nat.le_add_right _ _) (Nat.le_add_right _ _) ?_
  exact kk K ad M1 M2 H locs ls hB.2 Z hl
set_option maxRecDepth 100000 in
set_option maxHeartbeats 4000000 in
theorem lc_36 (C : Cx T D p s m args c code 4 "OneOfTwoLaw") (hX : va_X b L xs s s.heap) (hbl : b < s.heap.size) (hk : k + 6 ≤ L) (hL : L ≤ 3072) (Z : LZ T D ad K am s Mc Mm H locs) (hXS : XS SA (fun q => s.heap.size ≤ q) s s.heap) (hO : AOs s) {ls : Array Slot} (hl : lv_has ls 4 [(0, .ref b), (1, .ref (ad 0)), (2, .ref (am 0)), (3, .int (nI k))]) (hcells : cells + 3 ≤ room_1.cells) (hslots : slots + 107 ≤ room_1.slots) (hB : LO_36 Inv n K Mc Mm (xs (k + 1)) (xs (k + 2)) (xs (k + 3)) (xs (k + 4)) (xs (k + 5)))
    (kk : ∀ (K1 : Nat) (ad1 : Nat → Nat) (Mc1 Mm1 : Mem) (H : Heap) (locs : List Loc) (ls : Array Slot), Inv (n + 1) K1 Mc1 Mm1 → LZ T D ad1 K1 am s Mc1 Mm1 H locs → lv_has ls 4 [(0, .ref b), (1, .ref (ad1 0)), (2, .ref (am 0)), (3, .int (nI k))] → W p l e room_1 s m args below meth c H locs (cells + 3) (slots + 107) Q (F0 m 1476 ls [])) : W p l e room_1 s m args below meth c H locs cells slots Q (F0 m 1282 ls []) := by
  have hx := C.x
  have hb := C.b
  have hcs : cells + 0 ≤ room_1.cells ∧ slots + 0 ≤ room_1.slots := ⟨Nat.le_trans (Nat.le_add_right _ _) hcells, Nat.le_trans (Nat.le_add_right _ _) hslots⟩
  delta LO_36 at hB
  refine lv_aload_n hx hb dL_law_1282 rfl (lv_at hl 1 rfl) ?_
  refine lv_aload_n hx hb dL_law_1283 rfl (lv_at hl 0 rfl) ?_
  refine lv_iload_n hx hb dL_law_1284 rfl (lv_at hl 3 rfl) ?_
  refine lv_iconst (v := 1) hx hb dL_law_1285 (by decide) ?_
  refine lv_iadd hx hb dL_law_1286 ?_
  refine s_ld (k := k) (j := 1) C.1 hX hbl Z.2.2.2.2.2.2.2 (by omega) hL (nI_add k 1) dL_law_1287 ?_
  refine lv_aload_n hx hb dL_law_1288 rfl (lv_at hl 0 rfl) ?_
  refine lv_iload_n hx hb dL_law_1289 rfl (lv_at hl 3 rfl) ?_
  refine lv_iconst (v := 2) hx hb dL_law_1290 (by decide) ?_
  refine lv_iadd hx hb dL_law_1291 ?_
  refine s_ld (k := k) (j := 2) C.1 hX hbl Z.2.2.2.2.2.2.2 (by omega) hL (nI_add k 2) dL_law_1292 ?_
  refine lv_aload_n hx hb dL_law_1293 rfl (lv_at hl 0 rfl) ?_
  refine lv_iload_n hx hb dL_law_1294 rfl (lv_at hl 3 rfl) ?_
  refine lv_iconst (v := 3) hx hb dL_law_1295 (by decide) ?_
  refine lv_iadd hx hb dL_law_1296 ?_
  refine s_ld (k := k) (j := 3) C.1 hX hbl Z.2.2.2.2.2.2.2 (by omega) hL (nI_add k 3) dL_law_1297 ?_
  refine lv_aload_n hx hb dL_law_1298 rfl (lv_at hl 0 rfl) ?_
  refine lv_iload_n hx hb dL_law_1299 rfl (lv_at hl 3 rfl) ?_
  refine lv_iconst (v := 4) hx hb dL_law_1300 (by decide) ?_
  refine lv_iadd hx hb dL_law_1301 ?_
  refine s_ld (k := k) (j := 4) C.1 hX hbl Z.2.2.2.2.2.2.2 (by omega) hL (nI_add k 4) dL_law_1302 ?_
  refine lv_aload_n hx hb dL_law_1303 rfl (lv_at hl 0 rfl) ?_
  refine lv_iload_n hx hb dL_law_1304 rfl (lv_at hl 3 rfl) ?_
  refine lv_iconst (v := 5) hx hb dL_law_1305 (by decide) ?_
  refine lv_iadd hx hb dL_law_1306 ?_
  refine s_ld (k := k) (j := 5) C.1 hX hbl Z.2.2.2.2.2.2.2 (by omega) hL (nI_add k 5) dL_law_1307 ?_
  refine lk_C (rn_V (n := 5) (As := [.int (xs (k + 1)), .int (xs (k + 2)), .int (xs (k + 3)), .int (xs (k + 4)), .int (xs (k + 5))]) (rest := []) (c_X11_move hB) rfl rfl tw_5_58 tw_5_56 tw_5_57 tw_1_1 ⟨rfl, by decide, by decide, by decide +kernel⟩ rfl blW (rcC Z C) (fun U hU hW => ⟨rfl, lpC (SA := SA) Z C hU hW⟩) C.1 hl.1 tw_5_55 ⟨(Nat.le_of_ble_eq_true rfl), (Nat.le_of_ble_eq_true rfl)⟩ hcs (Nat.le_of_ble_eq_true rfl) rfl dL_law_1308) Z (fun r M1 H locs hB Z => ?_)
  refine lv_aload_n hx hb dL_law_1311 rfl (lv_at hl 2 rfl) ?_
  refine lv_aload_n hx hb dL_law_1312 rfl (lv_at hl 0 rfl) ?_
  refine lv_iload_n hx hb dL_law_1313 rfl (lv_at hl 3 rfl) ?_
  refine lv_iconst (v := 1) hx hb dL_law_1314 (by decide) ?_
  refine lv_iadd hx hb dL_law_1315 ?_
  refine s_ld (k := k) (j := 1) C.1 hX hbl Z.2.2.2.2.2.2.2 (by omega) hL (nI_add k 1) dL_law_1316 ?_
  refine lv_aload_n hx hb dL_law_1317 rfl (lv_at hl 0 rfl) ?_
  refine lv_iload_n hx hb dL_law_1318 rfl (lv_at hl 3 rfl) ?_
  refine lv_iconst (v := 2) hx hb dL_law_1319 (by decide) ?_
  refine lv_iadd hx hb dL_law_1320 ?_
  refine s_ld (k := k) (j := 2) C.1 hX hbl Z.2.2.2.2.2.2.2 (by omega) hL (nI_add k 2) dL_law_1321 ?_
  refine lv_aload_n hx hb dL_law_1322 rfl (lv_at hl 0 rfl) ?_
  refine lv_iload_n hx hb dL_law_1323 rfl (lv_at hl 3 rfl) ?_
  refine lv_iconst (v := 3) hx hb dL_law_1324 (by decide) ?_
  refine lv_iadd hx hb dL_law_1325 ?_
  refine s_ld (k := k) (j := 3) C.1 hX hbl Z.2.2.2.2.2.2.2 (by omega) hL (nI_add k 3) dL_law_1326 ?_
  refine lv_aload_n hx hb dL_law_1327 rfl (lv_at hl 0 rfl) ?_
  refine lv_iload_n hx hb dL_law_1328 rfl (lv_at hl 3 rfl) ?_
  refine lv_iconst (v := 4) hx hb dL_law_1329 (by decide) ?_
  refine lv_iadd hx hb dL_law_1330 ?_
  refine s_ld (k := k) (j := 4) C.1 hX hbl Z.2.2.2.2.2.2.2 (by omega) hL (nI_add k 4) dL_law_1331 ?_
  refine lv_aload_n hx hb dL_law_1332 rfl (lv_at hl 0 rfl) ?_
  refine lv_iload_n hx hb dL_law_1333 rfl (lv_at hl 3 rfl) ?_
  refine lv_iconst (v := 5) hx hb dL_law_1334 (by decide) ?_
  refine lv_iadd hx hb dL_law_1335 ?_
  refine s_ld (k := k) (j := 5) C.1 hX hbl Z.2.2.2.2.2.2.2 (by omega) hL (nI_add k 5) dL_law_1336 ?_
  refine lk_M (rn_V (n := 5) (As := [.int (xs (k + 1)), .int (xs (k + 2)), .int (xs (k + 3)), .int (xs (k + 4)), .int (xs (k + 5))]) (rest := [.int r]) (c_X12_move hB) rfl rfl tw_7_90 tw_7_88 tw_7_89 tw_1_12 ⟨rfl, by decide, by decide, by decide +kernel⟩ rfl blW (rcM Z C) (fun U hU hW => ⟨rfl, lpM Z C hU hW⟩) C.1 hl.1 tw_7_87 ⟨(Nat.le_of_ble_eq_true rfl), (Nat.le_of_ble_eq_true rfl)⟩ hcs (Nat.le_of_ble_eq_true rfl) rfl dL_law_1337) Z (fun r2 M2 H locs hB Z => ?_)
  refine lv_icmp_eq (tgt := 1476) hx hb dL_law_1340 (by decide) (fun _ => ?_) (fun q => absurd hB.1 q)
  refine W.widen (k := cells + 3) (n := slots + 107) (Nat.le_add_right _ _) (Nat.le_add_right _ _) ?_
  exact kk K ad M1 M2 H locs ls hB.2 Z hl
set_option maxRecDepth 100000 in
set_option maxHeartbeats 4000000 in
theorem lc_37 (C : Cx T D p s m args c code 4 "OneOfTwoLaw") (hX : va_X b L xs s s.heap) (hbl : b < s.heap.size) (hk : k + 6 ≤ L) (hL : L ≤ 3072) (Z : LZ T D ad K am s Mc Mm H locs) (hXS : XS SA (fun q => s.heap.size ≤ q) s s.heap) (hO : AOs s) {ls : Array Slot} (hl : lv_has ls 4 [(0, .ref b), (1, .ref (ad 0)), (2, .ref (am 0)), (3, .int (nI k))]) (hcells : cells + 3 ≤ room_1.cells) (hslots : slots + 107 ≤ room_1.slots) (hB : LO_37 Inv n K Mc Mm (xs (k + 1)) (xs (k + 2)) (xs (k + 3)) (xs (k + 4)) (xs (k + 5)))
    (kk : ∀ (K1 : Nat) (ad1 : Nat → Nat) (Mc1 Mm1 : Mem) (H : Heap) (locs : List Loc) (ls : Array Slot), Inv (n + 1) K1 Mc1 Mm1 → LZ T D ad1 K1 am s Mc1 Mm1 H locs → lv_has ls 4 [(0, .ref b), (1, .ref (ad1 0)), (2, .ref (am 0)), (3, .int (nI k))] → W p l e room_1 s m args below meth c H locs (cells + 3) (slots + 107) Q (F0 m 1476 ls [])) : W p l e room_1 s m args below meth c H locs cells slots Q (F0 m 1345 ls []) := by
  have hx := C.x
  have hb := C.b
  have hcs : cells + 0 ≤ room_1.cells ∧ slots + 0 ≤ room_1.slots := ⟨Nat.le_trans (Nat.le_add_right _ _) hcells, Nat.le_trans (Nat.le_add_right _ _) hslots⟩
  delta LO_37 at hB
  refine lv_aload_n hx hb dL_law_1345 rfl (lv_at hl 1 rfl) ?_
  refine lv_aload_n hx hb dL_law_1346 rfl (lv_at hl 0 rfl) ?_
  refine lv_iload_n hx hb dL_law_1347 rfl (lv_at hl 3 rfl) ?_
  refine lv_iconst (v := 1) hx hb dL_law_1348 (by decide) ?_
  refine lv_iadd hx hb dL_law_1349 ?_
  refine s_ld (k := k) (j := 1) C.1 hX hbl Z.2.2.2.2.2.2.2 (by omega) hL (nI_add k 1) dL_law_1350 ?_
  refine lk_C (rn_V (n := 1) (As := [.int (xs (k + 1))]) (rest := []) (c_X11_judge hB) rfl rfl tw_5_67 tw_5_65 tw_5_66 tw_1_1 ⟨rfl, by decide, by decide, by decide +kernel⟩ rfl blW (rcC Z C) (fun U hU hW => ⟨rfl, lpC (SA := SA) Z C hU hW⟩) C.1 hl.1 tw_5_64 ⟨(Nat.le_of_ble_eq_true rfl), (Nat.le_of_ble_eq_true rfl)⟩ hcs (Nat.le_of_ble_eq_true rfl) rfl dL_law_1351) Z (fun r M1 H locs hB Z => ?_)
  refine lv_aload_n hx hb dL_law_1354 rfl (lv_at hl 2 rfl) ?_
  refine lv_aload_n hx hb dL_law_1355 rfl (lv_at hl 0 rfl) ?_
  refine lv_iload_n hx hb dL_law_1356 rfl (lv_at hl 3 rfl) ?_
  refine lv_iconst (v := 1) hx hb dL_law_1357 (by decide) ?_
  refine lv_iadd hx hb dL_law_1358 ?_
  refine s_ld (k := k) (j := 1) C.1 hX hbl Z.2.2.2.2.2.2.2 (by omega) hL (nI_add k 1) dL_law_1359 ?_
  refine lk_M (rn_V (n := 1) (As := [.int (xs (k + 1))]) (rest := [.int r]) (c_X12_judge hB) rfl rfl tw_7_94 tw_7_92 tw_7_93 tw_1_12 ⟨rfl, by decide, by decide, by decide +kernel⟩ rfl blW (rcM Z C) (fun U hU hW => ⟨rfl, lpM Z C hU hW⟩) C.1 hl.1 tw_7_91 ⟨(Nat.le_of_ble_eq_true rfl), (Nat.le_of_ble_eq_true rfl)⟩ hcs (Nat.le_of_ble_eq_true rfl) rfl dL_law_1360) Z (fun r2 M2 H locs hB Z => ?_)
  refine lv_icmp_eq (tgt := 1476) hx hb dL_law_1363 (by decide) (fun _ => ?_) (fun q => absurd hB.1 q)
  refine W.widen (k := cells + 3) (n := slots + 107) (Nat.le_add_right _ _) (Nat.le_add_right _ _) ?_
  exact kk K ad M1 M2 H locs ls hB.2 Z hl
set_option maxRecDepth 100000 in
set_option maxHeartbeats 4000000 in
theorem lc_38 (C : Cx T D p s m args c code 4 "OneOfTwoLaw") (hX : va_X b L xs s s.heap) (hbl : b < s.heap.size) (hk : k + 6 ≤ L) (hL : L ≤ 3072) (Z : LZ T D ad K am s Mc Mm H locs) (hXS : XS SA (fun q => s.heap.size ≤ q) s s.heap) (hO : AOs s) {ls : Array Slot} (hl : lv_has ls 4 [(0, .ref b), (1, .ref (ad 0)), (2, .ref (am 0)), (3, .int (nI k))]) (hcells : cells + 3 ≤ room_1.cells) (hslots : slots + 107 ≤ room_1.slots) (hB : LO_38 Inv n K Mc Mm (xs (k + 1)) (xs (k + 2)) (xs (k + 3)) (xs (k + 4)) (xs (k + 5)))
    (kk : ∀ (K1 : Nat) (ad1 : Nat → Nat) (Mc1 Mm1 : Mem) (H : Heap) (locs : List Loc) (ls : Array Slot), Inv (n + 1) K1 Mc1 Mm1 → LZ T D ad1 K1 am s Mc1 Mm1 H locs → lv_has ls 4 [(0, .ref b), (1, .ref (ad1 0)), (2, .ref (am 0)), (3, .int (nI k))] → W p l e room_1 s m args below meth c H locs (cells + 3) (slots + 107) Q (F0 m 1476 ls [])) : W p l e room_1 s m args below meth c H locs cells slots Q (F0 m 1368 ls []) := by
  have hx := C.x
  have hb := C.b
  have hcs : cells + 0 ≤ room_1.cells ∧ slots + 0 ≤ room_1.slots := ⟨Nat.le_trans (Nat.le_add_right _ _) hcells, Nat.le_trans (Nat.le_add_right _ _) hslots⟩
  delta LO_38 at hB
  refine lv_aload_n hx hb dL_law_1368 rfl (lv_at hl 1 rfl) ?_
  refine lk_C (rn_V (n := 0) (As := []) (rest := []) (c_X11_image hB) rfl rfl tw_5_71 tw_5_69 tw_5_70 tw_1_1 ⟨rfl, by decide, by decide, by decide +kernel⟩ rfl blW (rcC Z C) (fun U hU hW => ⟨rfl, lpC (SA := SA) Z C hU hW⟩) C.1 hl.1 tw_5_68 ⟨(Nat.le_of_ble_eq_true rfl), (Nat.le_of_ble_eq_true rfl)⟩ hcs (Nat.le_of_ble_eq_true rfl) rfl dL_law_1369) Z (fun r M1 H locs hB Z => ?_)
  refine lv_aload_n hx hb dL_law_1372 rfl (lv_at hl 2 rfl) ?_
  refine lk_M (rn_V (n := 0) (As := []) (rest := [.int r]) (c_X12_image hB) rfl rfl tw_7_98 tw_7_96 tw_7_97 tw_1_12 ⟨rfl, by decide, by decide, by decide +kernel⟩ rfl blW (rcM Z C) (fun U hU hW => ⟨rfl, lpM Z C hU hW⟩) C.1 hl.1 tw_7_95 ⟨(Nat.le_of_ble_eq_true rfl), (Nat.le_of_ble_eq_true rfl)⟩ hcs (Nat.le_of_ble_eq_true rfl) rfl dL_law_1373) Z (fun r2 M2 H locs hB Z => ?_)
  refine lv_icmp_eq (tgt := 1476) hx hb dL_law_1376 (by decide) (fun _ => ?_) (fun q => absurd hB.1 q)
  refine W.widen (k := cells + 3) (n := slots + 107) (Nat.le_add_right _ _) (Nat.le_add_right _ _) ?_
  exact kk K ad M1 M2 H locs ls hB.2 Z hl
set_option maxRecDepth 100000 in
set_option maxHeartbeats 4000000 in
theorem lc_39 (C : Cx T D p s m args c code 4 "OneOfTwoLaw") (hX : va_X b L xs s s.heap) (hbl : b < s.heap.size) (hk : k + 6 ≤ L) (hL : L ≤ 3072) (Z : LZ T D ad K am s Mc Mm H locs) (hXS : XS SA (fun q => s.heap.size ≤ q) s s.heap) (hO : AOs s) {ls : Array Slot} (hl : lv_has ls 4 [(0, .ref b), (1, .ref (ad 0)), (2, .ref (am 0)), (3, .int (nI k))]) (hcells : cells + 3 ≤ room_1.cells) (hslots : slots + 107 ≤ room_1.slots) (hB : LO_39 Inv n K Mc Mm (xs (k + 1)) (xs (k + 2)) (xs (k + 3)) (xs (k + 4)) (xs (k + 5)))
    (kk : ∀ (K1 : Nat) (ad1 : Nat → Nat) (Mc1 Mm1 : Mem) (H : Heap) (locs : List Loc) (ls : Array Slot), Inv (n + 1) K1 Mc1 Mm1 → LZ T D ad1 K1 am s Mc1 Mm1 H locs → lv_has ls 4 [(0, .ref b), (1, .ref (ad1 0)), (2, .ref (am 0)), (3, .int (nI k))] → W p l e room_1 s m args below meth c H locs (cells + 3) (slots + 107) Q (F0 m 1476 ls [])) : W p l e room_1 s m args below meth c H locs cells slots Q (F0 m 1381 ls []) := by
  have hx := C.x
  have hb := C.b
  have hcs : cells + 0 ≤ room_1.cells ∧ slots + 0 ≤ room_1.slots := ⟨Nat.le_trans (Nat.le_add_right _ _) hcells, Nat.le_trans (Nat.le_add_right _ _) hslots⟩
  delta LO_39 at hB
  refine lv_aload_n hx hb dL_law_1381 rfl (lv_at hl 1 rfl) ?_
  refine lk_C (rn_V (n := 0) (As := []) (rest := []) (c_X11_restore hB) rfl rfl tw_5_75 tw_5_73 tw_5_74 tw_1_1 ⟨rfl, by decide, by decide, by decide +kernel⟩ rfl blW (rcC Z C) (fun U hU hW => ⟨rfl, lpC (SA := SA) Z C hU hW⟩) C.1 hl.1 tw_5_72 ⟨(Nat.le_of_ble_eq_true rfl), (Nat.le_of_ble_eq_true rfl)⟩ hcs (Nat.le_of_ble_eq_true rfl) rfl dL_law_1382) Z (fun r M1 H locs hB Z => ?_)
  refine lv_aload_n hx hb dL_law_1385 rfl (lv_at hl 2 rfl) ?_
  refine lk_M (rn_V (n := 0) (As := []) (rest := [.int r]) (c_X12_restore hB) rfl rfl tw_7_102 tw_7_100 tw_7_101 tw_1_12 ⟨rfl, by decide, by decide, by decide +kernel⟩ rfl blW (rcM Z C) (fun U hU hW => ⟨rfl, lpM Z C hU hW⟩) C.1 hl.1 tw_7_99 ⟨(Nat.le_of_ble_eq_true rfl), (Nat.le_of_ble_eq_true rfl)⟩ hcs (Nat.le_of_ble_eq_true rfl) rfl dL_law_1386) Z (fun r2 M2 H locs hB Z => ?_)
  refine lv_icmp_eq (tgt := 1476) hx hb dL_law_1389 (by decide) (fun _ => ?_) (fun q => absurd hB.1 q)
  refine W.widen (k := cells + 3) (n := slots + 107) (Nat.le_add_right _ _) (Nat.le_add_right _ _) ?_
  exact kk K ad M1 M2 H locs ls hB.2 Z hl
set_option maxRecDepth 100000 in
set_option maxHeartbeats 4000000 in
theorem lc_40 (C : Cx T D p s m args c code 4 "OneOfTwoLaw") (hX : va_X b L xs s s.heap) (hbl : b < s.heap.size) (hk : k + 6 ≤ L) (hL : L ≤ 3072) (Z : LZ T D ad K am s Mc Mm H locs) (hXS : XS SA (fun q => s.heap.size ≤ q) s s.heap) (hO : AOs s) {ls : Array Slot} (hl : lv_has ls 4 [(0, .ref b), (1, .ref (ad 0)), (2, .ref (am 0)), (3, .int (nI k))]) (hcells : cells + 3 ≤ room_1.cells) (hslots : slots + 107 ≤ room_1.slots) (hB : LO_40 Inv n K Mc Mm (xs (k + 1)) (xs (k + 2)) (xs (k + 3)) (xs (k + 4)) (xs (k + 5)))
    (kk : ∀ (K1 : Nat) (ad1 : Nat → Nat) (Mc1 Mm1 : Mem) (H : Heap) (locs : List Loc) (ls : Array Slot), Inv (n + 1) K1 Mc1 Mm1 → LZ T D ad1 K1 am s Mc1 Mm1 H locs → lv_has ls 4 [(0, .ref b), (1, .ref (ad1 0)), (2, .ref (am 0)), (3, .int (nI k))] → W p l e room_1 s m args below meth c H locs (cells + 3) (slots + 107) Q (F0 m 1476 ls [])) : W p l e room_1 s m args below meth c H locs cells slots Q (F0 m 1394 ls []) := by
  have hx := C.x
  have hb := C.b
  have hcs : cells + 0 ≤ room_1.cells ∧ slots + 0 ≤ room_1.slots := ⟨Nat.le_trans (Nat.le_add_right _ _) hcells, Nat.le_trans (Nat.le_add_right _ _) hslots⟩
  delta LO_40 at hB
  refine lv_aload_n hx hb dL_law_1394 rfl (lv_at hl 1 rfl) ?_
  refine lv_aload_n hx hb dL_law_1395 rfl (lv_at hl 0 rfl) ?_
  refine lv_iload_n hx hb dL_law_1396 rfl (lv_at hl 3 rfl) ?_
  refine lv_iconst (v := 1) hx hb dL_law_1397 (by decide) ?_
  refine lv_iadd hx hb dL_law_1398 ?_
  refine s_ld (k := k) (j := 1) C.1 hX hbl Z.2.2.2.2.2.2.2 (by omega) hL (nI_add k 1) dL_law_1399 ?_
  refine lk_C (rn_V (n := 1) (As := [.int (xs (k + 1))]) (rest := []) (c_X11_tell hB) rfl rfl tw_5_79 tw_5_77 tw_5_78 tw_1_1 ⟨rfl, by decide, by decide, by decide +kernel⟩ rfl blW (rcC Z C) (fun U hU hW => ⟨rfl, lpC (SA := SA) Z C hU hW⟩) C.1 hl.1 tw_5_76 ⟨(Nat.le_of_ble_eq_true rfl), (Nat.le_of_ble_eq_true rfl)⟩ hcs (Nat.le_of_ble_eq_true rfl) rfl dL_law_1400) Z (fun r M1 H locs hB Z => ?_)
  refine lv_aload_n hx hb dL_law_1403 rfl (lv_at hl 2 rfl) ?_
  refine lv_aload_n hx hb dL_law_1404 rfl (lv_at hl 0 rfl) ?_
  refine lv_iload_n hx hb dL_law_1405 rfl (lv_at hl 3 rfl) ?_
  refine lv_iconst (v := 1) hx hb dL_law_1406 (by decide) ?_
  refine lv_iadd hx hb dL_law_1407 ?_
  refine s_ld (k := k) (j := 1) C.1 hX hbl Z.2.2.2.2.2.2.2 (by omega) hL (nI_add k 1) dL_law_1408 ?_
  refine lk_M (rn_V (n := 1) (As := [.int (xs (k + 1))]) (rest := [.int r]) (c_X12_tell hB) rfl rfl tw_7_106 tw_7_104 tw_7_105 tw_1_12 ⟨rfl, by decide, by decide, by decide +kernel⟩ rfl blW (rcM Z C) (fun U hU hW => ⟨rfl, lpM Z C hU hW⟩) C.1 hl.1 tw_7_103 ⟨(Nat.le_of_ble_eq_true rfl), (Nat.le_of_ble_eq_true rfl)⟩ hcs (Nat.le_of_ble_eq_true rfl) rfl dL_law_1409) Z (fun r2 M2 H locs hB Z => ?_)
  refine lv_icmp_eq (tgt := 1476) hx hb dL_law_1412 (by decide) (fun _ => ?_) (fun q => absurd hB.1 q)
  refine W.widen (k := cells + 3) (n := slots + 107) (Nat.le_add_right _ _) (Nat.le_add_right _ _) ?_
  exact kk K ad M1 M2 H locs ls hB.2 Z hl
set_option maxRecDepth 100000 in
set_option maxHeartbeats 4000000 in
theorem lc_41 (C : Cx T D p s m args c code 4 "OneOfTwoLaw") (hX : va_X b L xs s s.heap) (hbl : b < s.heap.size) (hk : k + 6 ≤ L) (hL : L ≤ 3072) (Z : LZ T D ad K am s Mc Mm H locs) (hXS : XS SA (fun q => s.heap.size ≤ q) s s.heap) (hO : AOs s) {ls : Array Slot} (hl : lv_has ls 4 [(0, .ref b), (1, .ref (ad 0)), (2, .ref (am 0)), (3, .int (nI k))]) (hcells : cells + 3 ≤ room_1.cells) (hslots : slots + 107 ≤ room_1.slots) (hB : LO_41 Inv n K Mc Mm (xs (k + 1)) (xs (k + 2)) (xs (k + 3)) (xs (k + 4)) (xs (k + 5)))
    (kk : ∀ (K1 : Nat) (ad1 : Nat → Nat) (Mc1 Mm1 : Mem) (H : Heap) (locs : List Loc) (ls : Array Slot), Inv (n + 1) K1 Mc1 Mm1 → LZ T D ad1 K1 am s Mc1 Mm1 H locs → lv_has ls 4 [(0, .ref b), (1, .ref (ad1 0)), (2, .ref (am 0)), (3, .int (nI k))] → W p l e room_1 s m args below meth c H locs (cells + 3) (slots + 107) Q (F0 m 1476 ls [])) : W p l e room_1 s m args below meth c H locs cells slots Q (F0 m 1417 ls []) := by
  have hx := C.x
  have hb := C.b
  have hcs : cells + 0 ≤ room_1.cells ∧ slots + 0 ≤ room_1.slots := ⟨Nat.le_trans (Nat.le_add_right _ _) hcells, Nat.le_trans (Nat.le_add_right _ _) hslots⟩
  delta LO_41 at hB
  refine lv_aload_n hx hb dL_law_1417 rfl (lv_at hl 1 rfl) ?_
  refine lk_C (rn_V (n := 0) (As := []) (rest := []) (c_X11_check hB) rfl rfl tw_5_83 tw_5_81 tw_5_82 tw_1_1 ⟨rfl, by decide, by decide, by decide +kernel⟩ rfl blW (rcC Z C) (fun U hU hW => ⟨rfl, lpC (SA := SA) Z C hU hW⟩) C.1 hl.1 tw_5_80 ⟨(Nat.le_of_ble_eq_true rfl), (Nat.le_of_ble_eq_true rfl)⟩ hcs (Nat.le_of_ble_eq_true rfl) rfl dL_law_1418) Z (fun r M1 H locs hB Z => ?_)
  refine lv_aload_n hx hb dL_law_1421 rfl (lv_at hl 2 rfl) ?_
  refine lk_M (rn_V (n := 0) (As := []) (rest := [.int r]) (c_X12_check hB) rfl rfl tw_7_110 tw_7_108 tw_7_109 tw_1_12 ⟨rfl, by decide, by decide, by decide +kernel⟩ rfl blW (rcM Z C) (fun U hU hW => ⟨rfl, lpM Z C hU hW⟩) C.1 hl.1 tw_7_107 ⟨(Nat.le_of_ble_eq_true rfl), (Nat.le_of_ble_eq_true rfl)⟩ hcs (Nat.le_of_ble_eq_true rfl) rfl dL_law_1422) Z (fun r2 M2 H locs hB Z => ?_)
  refine lv_icmp_eq (tgt := 1476) hx hb dL_law_1425 (by decide) (fun _ => ?_) (fun q => absurd hB.1 q)
  refine W.widen (k := cells + 3) (n := slots + 107) (Nat.le_add_right _ _) (Nat.le_add_right _ _) ?_
  exact kk K ad M1 M2 H locs ls hB.2 Z hl
set_option maxRecDepth 100000 in
set_option maxHeartbeats 4000000 in
theorem lc_42 (C : Cx T D p s m args c code 4 "OneOfTwoLaw") (hX : va_X b L xs s s.heap) (hbl : b < s.heap.size) (hk : k + 6 ≤ L) (hL : L ≤ 3072) (Z : LZ T D ad K am s Mc Mm H locs) (hXS : XS SA (fun q => s.heap.size ≤ q) s s.heap) (hO : AOs s) {ls : Array Slot} (hl : lv_has ls 4 [(0, .ref b), (1, .ref (ad 0)), (2, .ref (am 0)), (3, .int (nI k))]) (hcells : cells + 3 ≤ room_1.cells) (hslots : slots + 107 ≤ room_1.slots) (hB : LO_42 Inv n K Mc Mm (xs (k + 1)) (xs (k + 2)) (xs (k + 3)) (xs (k + 4)) (xs (k + 5)))
    (kk : ∀ (K1 : Nat) (ad1 : Nat → Nat) (Mc1 Mm1 : Mem) (H : Heap) (locs : List Loc) (ls : Array Slot), Inv (n + 1) K1 Mc1 Mm1 → LZ T D ad1 K1 am s Mc1 Mm1 H locs → lv_has ls 4 [(0, .ref b), (1, .ref (ad1 0)), (2, .ref (am 0)), (3, .int (nI k))] → W p l e room_1 s m args below meth c H locs (cells + 3) (slots + 107) Q (F0 m 1476 ls [])) : W p l e room_1 s m args below meth c H locs cells slots Q (F0 m 1430 ls []) := by
  have hx := C.x
  have hb := C.b
  have hcs : cells + 0 ≤ room_1.cells ∧ slots + 0 ≤ room_1.slots := ⟨Nat.le_trans (Nat.le_add_right _ _) hcells, Nat.le_trans (Nat.le_add_right _ _) hslots⟩
  delta LO_42 at hB
  refine lv_aload_n hx hb dL_law_1430 rfl (lv_at hl 1 rfl) ?_
  refine lv_aload_n hx hb dL_law_1431 rfl (lv_at hl 0 rfl) ?_
  refine lv_iload_n hx hb dL_law_1432 rfl (lv_at hl 3 rfl) ?_
  refine lv_iconst (v := 1) hx hb dL_law_1433 (by decide) ?_
  refine lv_iadd hx hb dL_law_1434 ?_
  refine s_ld (k := k) (j := 1) C.1 hX hbl Z.2.2.2.2.2.2.2 (by omega) hL (nI_add k 1) dL_law_1435 ?_
  refine lk_C (rn_V (n := 1) (As := [.int (xs (k + 1))]) (rest := []) (c_X11_count hB) rfl rfl tw_5_87 tw_5_85 tw_5_86 tw_1_1 ⟨rfl, by decide, by decide, by decide +kernel⟩ rfl blW (rcC Z C) (fun U hU hW => ⟨rfl, lpC (SA := SA) Z C hU hW⟩) C.1 hl.1 tw_5_84 ⟨(Nat.le_of_ble_eq_true rfl), (Nat.le_of_ble_eq_true rfl)⟩ hcs (Nat.le_of_ble_eq_true rfl) rfl dL_law_1436) Z (fun r M1 H locs hB Z => ?_)
  refine lv_aload_n hx hb dL_law_1439 rfl (lv_at hl 2 rfl) ?_
  refine lv_aload_n hx hb dL_law_1440 rfl (lv_at hl 0 rfl) ?_
  refine lv_iload_n hx hb dL_law_1441 rfl (lv_at hl 3 rfl) ?_
  refine lv_iconst (v := 1) hx hb dL_law_1442 (by decide) ?_
  refine lv_iadd hx hb dL_law_1443 ?_
  refine s_ld (k := k) (j := 1) C.1 hX hbl Z.2.2.2.2.2.2.2 (by omega) hL (nI_add k 1) dL_law_1444 ?_
  refine lk_M (rn_V (n := 1) (As := [.int (xs (k + 1))]) (rest := [.int r]) (c_X12_count hB) rfl rfl tw_7_114 tw_7_112 tw_7_113 tw_1_12 ⟨rfl, by decide, by decide, by decide +kernel⟩ rfl blW (rcM Z C) (fun U hU hW => ⟨rfl, lpM Z C hU hW⟩) C.1 hl.1 tw_7_111 ⟨(Nat.le_of_ble_eq_true rfl), (Nat.le_of_ble_eq_true rfl)⟩ hcs (Nat.le_of_ble_eq_true rfl) rfl dL_law_1445) Z (fun r2 M2 H locs hB Z => ?_)
  refine lv_icmp_eq (tgt := 1476) hx hb dL_law_1448 (by decide) (fun _ => ?_) (fun q => absurd hB.1 q)
  refine W.widen (k := cells + 3) (n := slots + 107) (Nat.le_add_right _ _) (Nat.le_add_right _ _) ?_
  exact kk K ad M1 M2 H locs ls hB.2 Z hl
set_option maxRecDepth 100000 in
set_option maxHeartbeats 4000000 in
theorem lc_43 (C : Cx T D p s m args c code 4 "OneOfTwoLaw") (hX : va_X b L xs s s.heap) (hbl : b < s.heap.size) (hk : k + 6 ≤ L) (hL : L ≤ 3072) (Z : LZ T D ad K am s Mc Mm H locs) (hXS : XS SA (fun q => s.heap.size ≤ q) s s.heap) (hO : AOs s) {ls : Array Slot} (hl : lv_has ls 4 [(0, .ref b), (1, .ref (ad 0)), (2, .ref (am 0)), (3, .int (nI k))]) (hcells : cells + 3 ≤ room_1.cells) (hslots : slots + 107 ≤ room_1.slots) (hB : LO_43 Inv n K Mc Mm (xs (k + 1)) (xs (k + 2)) (xs (k + 3)) (xs (k + 4)) (xs (k + 5)))
    (kk : ∀ (K1 : Nat) (ad1 : Nat → Nat) (Mc1 Mm1 : Mem) (H : Heap) (locs : List Loc) (ls : Array Slot), Inv (n + 1) K1 Mc1 Mm1 → LZ T D ad1 K1 am s Mc1 Mm1 H locs → lv_has ls 4 [(0, .ref b), (1, .ref (ad1 0)), (2, .ref (am 0)), (3, .int (nI k))] → W p l e room_1 s m args below meth c H locs (cells + 3) (slots + 107) Q (F0 m 1476 ls [])) : W p l e room_1 s m args below meth c H locs cells slots Q (F0 m 1453 ls []) := by
  have hx := C.x
  have hb := C.b
  have hcs : cells + 0 ≤ room_1.cells ∧ slots + 0 ≤ room_1.slots := ⟨Nat.le_trans (Nat.le_add_right _ _) hcells, Nat.le_trans (Nat.le_add_right _ _) hslots⟩
  delta LO_43 at hB
  refine lv_aload_n hx hb dL_law_1453 rfl (lv_at hl 1 rfl) ?_
  refine lv_aload_n hx hb dL_law_1454 rfl (lv_at hl 0 rfl) ?_
  refine lv_iload_n hx hb dL_law_1455 rfl (lv_at hl 3 rfl) ?_
  refine lv_iconst (v := 1) hx hb dL_law_1456 (by decide) ?_
  refine lv_iadd hx hb dL_law_1457 ?_
  refine s_ld (k := k) (j := 1) C.1 hX hbl Z.2.2.2.2.2.2.2 (by omega) hL (nI_add k 1) dL_law_1458 ?_
  refine lk_C (rn_V (n := 1) (As := [.int (xs (k + 1))]) (rest := []) (c_X11_told hB) rfl rfl tw_5_91 tw_5_89 tw_5_90 tw_1_1 ⟨rfl, by decide, by decide, by decide +kernel⟩ rfl blW (rcC Z C) (fun U hU hW => ⟨rfl, lpC (SA := SA) Z C hU hW⟩) C.1 hl.1 tw_5_88 ⟨(Nat.le_of_ble_eq_true rfl), (Nat.le_of_ble_eq_true rfl)⟩ hcs (Nat.le_of_ble_eq_true rfl) rfl dL_law_1459) Z (fun r M1 H locs hB Z => ?_)
  refine lv_aload_n hx hb dL_law_1462 rfl (lv_at hl 2 rfl) ?_
  refine lv_aload_n hx hb dL_law_1463 rfl (lv_at hl 0 rfl) ?_
  refine lv_iload_n hx hb dL_law_1464 rfl (lv_at hl 3 rfl) ?_
  refine lv_iconst (v := 1) hx hb dL_law_1465 (by decide) ?_
  refine lv_iadd hx hb dL_law_1466 ?_
  refine s_ld (k := k) (j := 1) C.1 hX hbl Z.2.2.2.2.2.2.2 (by omega) hL (nI_add k 1) dL_law_1467 ?_
  refine lk_M (rn_V (n := 1) (As := [.int (xs (k + 1))]) (rest := [.int r]) (c_X12_told hB) rfl rfl tw_7_122 tw_7_120 tw_7_121 tw_1_12 ⟨rfl, by decide, by decide, by decide +kernel⟩ rfl blW (rcM Z C) (fun U hU hW => ⟨rfl, lpM Z C hU hW⟩) C.1 hl.1 tw_7_119 ⟨(Nat.le_of_ble_eq_true rfl), (Nat.le_of_ble_eq_true rfl)⟩ hcs (Nat.le_of_ble_eq_true rfl) rfl dL_law_1468) Z (fun r2 M2 H locs hB Z => ?_)
  refine lv_icmp_eq (tgt := 1476) hx hb dL_law_1471 (by decide) (fun _ => ?_) (fun q => absurd hB.1 q)
  refine W.widen (k := cells + 3) (n := slots + 107) (Nat.le_add_right _ _) (Nat.le_add_right _ _) ?_
  exact kk K ad M1 M2 H locs ls hB.2 Z hl
end LAW2
