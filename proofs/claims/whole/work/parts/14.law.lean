/-! ===== the law: two worlds side by side ===== -/
def LZ (T : Nat → ClassId) (D : va_G) (ad : Nat → Nat) (K : Nat) (am : Nat → Nat) (s : State) (Mc Mm : Mem) (H : Heap) (locs : List Loc) : Prop :=
  Pw EC T D ad (69 + K) Mc H ∧ Pw EM T D am 16 Mm H ∧ Dd ad (69 + K) ∧ Dd am 16 ∧ (∀ i j, i < 69 + K → j < 16 → ad i ≠ am j) ∧ (∀ i, i < 69 + K → s.heap.size ≤ ad i) ∧ (∀ j, j < 16 → s.heap.size ≤ am j) ∧ va_S (fun q => s.heap.size ≤ q) s.heap H locs
section LAW1
variable {p : Program} {l : Launch} {e : Env} {R : Room} {s : State} {m : MethodId} {args : Array Value} {below : List Frame} {meth : Method} {c : Code} {H : Heap} {locs : List Loc} {cells slots : Nat} {Q : State → Prop}
variable {cc : ByteArray} {nL : Nat} {own : String} {pc index : Nat} {ls : Array Slot} {rest st0 : List Value} {a : Array Value} {T : Nat → ClassId} {D : va_G} {ad am : Nat → Nat} {K : Nat} {Mc Mm : Mem}
theorem rn_V {Pc : Array Value → State → Prop} {Qc : Array Value → State → Outcome → State → Prop} {free : Addr → Prop} {y : MethodName} {bytes : ByteArray} {maxL n mc ms b : Nat} {rm : Room} {ret : Option FieldType} {Cy : String} {As : List Value}
    (hM : Met l y (Cond.code y bytes maxL ret :: TB) rm Pc Qc mc ms free) (hrc : rm.cells = mc) (hrs : rm.slots = ms)
    (hcode : Cond.code y bytes maxL ret ∈ TB) (hins : Cond.instanceMethod y ∈ TB) (hsel : Cond.selects Cy y y ∈ TB) (hini : Cond.initialized Cy ∈ TB) (hy : y.cls = Cy ∧ y.cls ≠ "java/lang/invoke/MethodHandle" ∧ y.cls ≠ "java/lang/invoke/VarHandle" ∧ (parseMethodDescriptor y.desc).map (fun d => d.parameters.length) = some n) (hn : As.length = n)
    (hbl : FrameBlind Pc) (hrecv : ∃ cellB : Cell, H[b]? = some cellB ∧ cellB.vm.isStatics = false ∧ s.vm.findClass Cy = some cellB.cls) (hpre : ∀ U : State, U.heap = H → s.WarmedH U.vm → Pc (Value.ref b :: As).toArray U)
    (C : CallFix p m c cc nL s args TB own) (hls : ls.size = nL) (hlink : Cond.methodLink own index y ∈ TB) (hR : rm.frames + 1 ≤ R.frames ∧ 8 + (maxL + 11) + rm.locals ≤ R.locals) (hcs : cells + mc ≤ R.cells ∧ slots + ms ≤ R.slots) (hcat : (rest.map fun v => v.category).sum ≤ 8) (hst : st0 = As.reverse ++ .ref b :: rest) (hdg : decode cc pc = .ok (.invokevirtual index, 3)) :
    va_Run p l e R s m args below meth c H locs cells slots mc ms (F0 m pc ls st0) rest (Qc (Value.ref b :: As).toArray) free := by
  have hG : GoodIn TB (wsV own index Cy y (Cond.code y bytes maxL ret :: TB)) := by
    intro w hw
    unfold wsV at hw
    rcases List.mem_append.mp hw with hw | hw
    · simp only [List.mem_cons, List.not_mem_nil, or_false] at hw
      rcases hw with rfl | rfl | rfl | rfl
      · exact tb_good hlink
      · exact tb_good hins
      · exact tb_good hsel
      · exact tb_good hini
    · exact gdT hcode w hw
  exact va_runV C hM (cwV n C.2.2.2.2 hG rfl hrc hrs hy hR) ⟨hbl, hrecv, hpre⟩ rfl hn hls hst (lv_room hcat) hdg hcs
theorem lk_S {A1 : Nat → Prop} {H1 : Heap} {L : List Loc} (hS : va_S (fun q => s.heap.size ≤ q) s.heap H locs) (hA : ∀ q, A1 q → s.heap.size ≤ q) (hz : H.size ≤ H1.size) (hk : ∀ q : Nat, q < H.size → ¬ A1 q → H1[q]? = H[q]?) (hL : ∀ q ∈ L, A1 q.base) : va_S (fun q => s.heap.size ≤ q) s.heap H1 (locs ++ L) :=
  ⟨Nat.le_trans hS.1 hz, fun q h1 h2 => by rw [hk q (Nat.lt_of_lt_of_le h1 hS.1) (fun z => h2 (hA q z))]; exact hS.2.1 q h1 h2, fun q hq => by
    rcases List.mem_append.mp hq with h | h
    · exact hS.2.2 q h
    · exact hA _ (hL q h)⟩
theorem AA.ge {sz b K : Nat} {ad : Nat → Nat} (h1 : ∀ i, i < K → b ≤ ad i) (h2 : b ≤ sz) : ∀ q, AA ad K sz q → b ≤ q := by
  intro q h
  rcases h with ⟨k, hk, rfl⟩ | h
  · exact h1 k hk
  · exact Nat.le_trans h2 h
theorem lk_C {Q1 : Int32 → Mem → Prop} (hr : va_Run p l e R s m args below meth c H locs cells slots 0 0 (F0 m pc ls st0) rest (QcW EC T D ad (69 + K) (AA ad (69 + K) H.size) Q1 a) (AA ad (69 + K) H.size)) (Z : LZ T D ad K am s Mc Mm H locs) (kk : ∀ (r : Int32) (M1 : Mem) (H1 : Heap) (locs1 : List Loc), Q1 r M1 → LZ T D ad K am s M1 Mm H1 locs1 → W p l e R s m args below meth c H1 locs1 cells slots Q (F0 m (pc + 3) ls (.int r :: rest))) : W p l e R s m args below meth c H locs cells slots Q (F0 m pc ls st0) := by
  obtain ⟨hP, hQ, hD, hE, hN, hA, hB, hS⟩ := Z
  intro U hU0 X
  obtain ⟨v, st₀, t, T', L, h0, X', hL, e1, e2, ⟨⟨r, M1, hv, hq, hp⟩, hz, hk⟩, st⟩ := hr U hU0 X
  cases hv
  rw [h0] at hz hk
  rw [← e1] at hz hk hp
  have hQ1 : Pw EM T D am 16 Mm T'.heap := hQ.kept (fun k x hx => by
    have hlt := (hQ k x hx).lt
    obtain ⟨hk2, rfl⟩ := ws_inv hx
    refine hk _ hlt (fun z => ?_)
    rcases z with ⟨i, hi, z⟩ | z
    · exact hN i k hi hk2 z.symm
    · exact absurd hlt (Nat.not_lt.mpr z))
  obtain ⟨t2, a1, b1⟩ := kk r M1 T'.heap (locs ++ L) hq ⟨hp, hQ1, hD, hE, hN, hA, hB, lk_S hS (AA.ge hA hS.1) hz hk hL⟩ T' rfl X'
  exact ⟨t2, st t2 a1, b1⟩
theorem lk_M {Q1 : Int32 → Mem → Prop} (hr : va_Run p l e R s m args below meth c H locs cells slots 0 0 (F0 m pc ls st0) rest (QcW EM T D am 16 (AA am 16 H.size) Q1 a) (AA am 16 H.size)) (Z : LZ T D ad K am s Mc Mm H locs) (kk : ∀ (r : Int32) (M1 : Mem) (H1 : Heap) (locs1 : List Loc), Q1 r M1 → LZ T D ad K am s Mc M1 H1 locs1 → W p l e R s m args below meth c H1 locs1 cells slots Q (F0 m (pc + 3) ls (.int r :: rest))) : W p l e R s m args below meth c H locs cells slots Q (F0 m pc ls st0) := by
  obtain ⟨hP, hQ, hD, hE, hN, hA, hB, hS⟩ := Z
  intro U hU0 X
  obtain ⟨v, st₀, t, T', L, h0, X', hL, e1, e2, ⟨⟨r, M1, hv, hq, hp⟩, hz, hk⟩, st⟩ := hr U hU0 X
  cases hv
  rw [h0] at hz hk
  rw [← e1] at hz hk hp
  have hP1 : Pw EC T D ad (69 + K) Mc T'.heap := hP.kept (fun k x hx => by
    have hlt := (hP k x hx).lt
    obtain ⟨hk2, rfl⟩ := ws_inv hx
    refine hk _ hlt (fun z => ?_)
    rcases z with ⟨i, hi, z⟩ | z
    · exact hN k i hk2 hi z
    · exact absurd hlt (Nat.not_lt.mpr z))
  obtain ⟨t2, a1, b1⟩ := kk r M1 T'.heap (locs ++ L) hq ⟨hP1, hp, hD, hE, hN, hA, hB, lk_S hS (AA.ge hB hS.1) hz hk hL⟩ T' rfl X'
  exact ⟨t2, st t2 a1, b1⟩
theorem lk_T {Q1 : Int32 → Nat → Mem → Prop} (hr : va_Run p l e R s m args below meth c H locs cells slots 3 107 (F0 m pc ls st0) rest (QcT T D ad K H.size Q1 a) (AA ad (69 + K) H.size)) (Z : LZ T D ad K am s Mc Mm H locs) (kk : ∀ (r : Int32) (K1 : Nat) (ad1 : Nat → Nat) (M1 : Mem) (H1 : Heap) (locs1 : List Loc), Q1 r K1 M1 → ad1 0 = ad 0 → LZ T D ad1 K1 am s M1 Mm H1 locs1 → W p l e R s m args below meth c H1 locs1 (cells + 3) (slots + 107) Q (F0 m (pc + 3) ls (.int r :: rest))) : W p l e R s m args below meth c H locs cells slots Q (F0 m pc ls st0) := by
  obtain ⟨hP, hQ, hD, hE, hN, hA, hB, hS⟩ := Z
  intro U hU0 X
  obtain ⟨v, st₀, t, T', L, h0, X', hL, e1, e2, ⟨⟨r, K1, ad1, M1, hv, hq, hp, hD1, ha1, hK1, hn1⟩, hz, hk⟩, st⟩ := hr U hU0 X
  cases hv
  rw [h0] at hz hk
  rw [← e1] at hz hk hp
  have hQ1 : Pw EM T D am 16 Mm T'.heap := hQ.kept (fun k x hx => by
    have hlt := (hQ k x hx).lt
    obtain ⟨hk2, rfl⟩ := ws_inv hx
    refine hk _ hlt (fun z => ?_)
    rcases z with ⟨i, hi, z⟩ | z
    · exact hN i k hi hk2 z.symm
    · exact absurd hlt (Nat.not_lt.mpr z))
  have hN1 : ∀ i j, i < 69 + K1 → j < 16 → ad1 i ≠ am j := fun i j hi hj z => by
    by_cases h : i < 69 + K
    · rw [ha1 i h] at z; exact hN i j h hj z
    · have h2 := hn1 i (Nat.le_of_not_lt h) hi
      have h3 := (hQ j _ (ws_at hj)).lt
      rw [z] at h2
      exact absurd h3 (Nat.not_lt.mpr h2)
  have hA1 : ∀ i, i < 69 + K1 → s.heap.size ≤ ad1 i := fun i hi => by
    by_cases h : i < 69 + K
    · rw [ha1 i h]; exact hA i h
    · exact Nat.le_trans hS.1 (hn1 i (Nat.le_of_not_lt h) hi)
  obtain ⟨t2, a1, b1⟩ := kk r K1 ad1 M1 T'.heap (locs ++ L) hq (ha1 0 (by omega)) ⟨hp, hQ1, hD1, hE, hN1, hA1, hB, lk_S hS (AA.ge hA hS.1) hz hk hL⟩ T' rfl X'
  exact ⟨t2, st t2 a1, b1⟩
theorem s_ld {b L k j : Nat} {xs : Nat → Int32} {i : Int32} (C : CallFix p m c cc nL s args TB own) (hX : va_X b L xs s s.heap) (hbl : b < s.heap.size) (hS : va_S (fun q => s.heap.size ≤ q) s.heap H locs) (hk : k + j < L) (hL : L ≤ 3072) (hi : i = nI (k + j)) (hdg : decode cc pc = .ok (.iaload, 1))
    (kk : W p l e R s m args below meth c H locs cells slots Q (F0 m (pc + 1) ls (.int (xs (k + j)) :: rest))) : W p l e R s m args below meth c H locs cells slots Q (F0 m pc ls (.int i :: .ref b :: rest)) := by
  subst hi
  refine va_sld C.1 C.2.1 hX hbl (Nat.not_le.mpr hbl) hS (vp_in_nI hk (by omega)) hdg ?_
  rw [nI_clamp (by omega)]
  exact kk
theorem lpC {M : Mem} {H : Heap} {U : State} {SA : Nat → Nat} (Z : LZ T D ad K am s M Mm H locs) (C : Cx T D p s m args c cc nL own) (hU : U.heap = H) (hW : s.WarmedH U.vm) : WrP EC T D ad (69 + K) M H.size U := ⟨by rw [hU], by rw [hU]; exact Z.1, C.2.warm hW, Z.2.2.1⟩
theorem lpM {M : Mem} {H : Heap} {U : State} (Z : LZ T D ad K am s Mc M H locs) (C : Cx T D p s m args c cc nL own) (hU : U.heap = H) (hW : s.WarmedH U.vm) : WrP EM T D am 16 M H.size U := ⟨by rw [hU], by rw [hU]; exact Z.2.1, C.2.warm hW, Z.2.2.2.1⟩
theorem lpX {M : Mem} {H : Heap} {U : State} {SA : Nat → Nat} (Z : LZ T D ad K am s M Mm H locs) (hXS : XS SA (fun q => s.heap.size ≤ q) s s.heap) (C : Cx T D p s m args c cc nL own) (hU : U.heap = H) (hW : s.WarmedH U.vm) : WxP SA EC T D ad (69 + K) M H.size U := ⟨⟨by rw [hU], by rw [hU]; exact Z.1, C.2.warm hW, Z.2.2.1⟩, hXS.go Z.2.2.2.2.2.2.2 (AA.ge Z.2.2.2.2.2.1 Z.2.2.2.2.2.2.2.1) hU hW⟩
theorem blT {SA : Nat → Nat} {K1 sz : Nat} {M : Mem} {av : List Value} : FrameBlind (va_Pc av (fun U => WxP SA EC T D ad K1 M sz U ∧ AOs U)) := fun a U g mk h => ⟨h.1, (blX a U g mk ⟨h.1, h.2.1⟩).2, h.2.2.call⟩
theorem rcC {M : Mem} {H : Heap} (Z : LZ T D ad K am s M Mm H locs) (C : Cx T D p s m args c cc nL own) : ∃ cellB : Cell, H[ad 0]? = some cellB ∧ cellB.vm.isStatics = false ∧ s.vm.findClass "OneOfTwo" = some cellB.cls := va_recv C.2.1 Z.1 (q0 := 0) (ci := 11) (q := (RX11, TX11, 11)) rfl (by rw [ws_at (by omega)]; rfl)
theorem rcM {M : Mem} {H : Heap} (Z : LZ T D ad K am s Mc M H locs) (C : Cx T D p s m args c cc nL own) : ∃ cellB : Cell, H[am 0]? = some cellB ∧ cellB.vm.isStatics = false ∧ s.vm.findClass "OneOfTwoModel" = some cellB.cls := va_recv C.2.1 Z.2.1 (q0 := 0) (ci := 12) (q := (RX12, TX12, 29)) rfl (by rw [ws_at (by omega)]; rfl)
end LAW1
def LO_0 (Inv : Nat → Nat → Mem → Mem → Prop) (n K : Nat) (Mc Mm : Mem) (a1 a2 a3 a4 a5 : Int32) : Prop :=
  P_X11_window K Mc a1 a2 (fun r Mc1 => P_X12_window Mm a1 a2 (fun r2 Mm1 => r = r2 ∧ Inv (n + 1) K Mc1 Mm1))
def LO_1 (Inv : Nat → Nat → Mem → Mem → Prop) (n K : Nat) (Mc Mm : Mem) (a1 a2 a3 a4 a5 : Int32) : Prop :=
  P_X11_cord K Mc a1 (fun r Mc1 => P_X12_cord Mm a1 (fun r2 Mm1 => r = r2 ∧ Inv (n + 1) K Mc1 Mm1))
def LO_2 (Inv : Nat → Nat → Mem → Mem → Prop) (n K : Nat) (Mc Mm : Mem) (a1 a2 a3 a4 a5 : Int32) : Prop :=
  P_X11_drop K Mc (fun r Mc1 => P_X12_drop Mm (fun r2 Mm1 => r = r2 ∧ Inv (n + 1) K Mc1 Mm1))
def LO_3 (Inv : Nat → Nat → Mem → Mem → Prop) (n K : Nat) (Mc Mm : Mem) (a1 a2 a3 a4 a5 : Int32) : Prop :=
  P_X11_ofWindow K Mc a1 a2 (fun r Mc1 => P_X12_ofWindow Mm a1 a2 (fun r2 Mm1 => r = r2 ∧ Inv (n + 1) K Mc1 Mm1))
def LO_4 (Inv : Nat → Nat → Mem → Mem → Prop) (n K : Nat) (Mc Mm : Mem) (a1 a2 a3 a4 a5 : Int32) : Prop :=
  P_X11_ofCord K Mc a1 a2 (fun r Mc1 => P_X12_ofCord Mm a1 a2 (fun r2 Mm1 => r = r2 ∧ Inv (n + 1) K Mc1 Mm1))
def LO_5 (Inv : Nat → Nat → Mem → Mem → Prop) (n K : Nat) (Mc Mm : Mem) (a1 a2 a3 a4 a5 : Int32) : Prop :=
  P_X11_open K Mc a1 a2 (fun r Mc1 => P_X12_open Mm a1 a2 (fun r2 Mm1 => r = r2 ∧ Inv (n + 1) K Mc1 Mm1))
def LO_6 (Inv : Nat → Nat → Mem → Mem → Prop) (n K : Nat) (Mc Mm : Mem) (a1 a2 a3 a4 a5 : Int32) : Prop :=
  P_X11_swell K Mc a1 a2 (fun r Mc1 => P_X12_swell Mm a1 a2 (fun r2 Mm1 => r = r2 ∧ Inv (n + 1) K Mc1 Mm1))
def LO_7 (Inv : Nat → Nat → Mem → Mem → Prop) (n K : Nat) (Mc Mm : Mem) (a1 a2 a3 a4 a5 : Int32) : Prop :=
  P_X11_pull K Mc a1 a2 (fun r Mc1 => P_X12_pull Mm a1 a2 (fun r2 Mm1 => r = r2 ∧ Inv (n + 1) K Mc1 Mm1))
def LO_8 (Inv : Nat → Nat → Mem → Mem → Prop) (n K : Nat) (Mc Mm : Mem) (a1 a2 a3 a4 a5 : Int32) : Prop :=
  P_X11_swap K Mc a1 a2 (fun r Mc1 => P_X12_swap Mm a1 a2 (fun r2 Mm1 => r = r2 ∧ Inv (n + 1) K Mc1 Mm1))
def LO_9 (Inv : Nat → Nat → Mem → Mem → Prop) (n K : Nat) (Mc Mm : Mem) (a1 a2 a3 a4 a5 : Int32) : Prop :=
  P_X11_air K Mc a1 (fun r Mc1 => P_X12_air Mm a1 (fun r2 Mm1 => r = r2 ∧ Inv (n + 1) K Mc1 Mm1))
def LO_10 (Inv : Nat → Nat → Mem → Mem → Prop) (n K : Nat) (Mc Mm : Mem) (a1 a2 a3 a4 a5 : Int32) : Prop :=
  P_X11_lodger K Mc a1 a2 (fun r Mc1 => P_X12_lodger Mm a1 a2 (fun r2 Mm1 => r = r2 ∧ Inv (n + 1) K Mc1 Mm1))
def LO_11 (Inv : Nat → Nat → Mem → Mem → Prop) (n K : Nat) (Mc Mm : Mem) (a1 a2 a3 a4 a5 : Int32) : Prop :=
  P_X11_ofLodger K Mc a1 a2 (fun r Mc1 => P_X12_ofLodger Mm a1 a2 (fun r2 Mm1 => r = r2 ∧ Inv (n + 1) K Mc1 Mm1))
def LO_12 (Inv : Nat → Nat → Mem → Mem → Prop) (n K : Nat) (Mc Mm : Mem) (a1 a2 a3 a4 a5 : Int32) : Prop :=
  P_X11_become K Mc a1 a2 (fun r Mc1 => P_X12_become Mm a1 a2 (fun r2 Mm1 => r = r2 ∧ Inv (n + 1) K Mc1 Mm1))
def LO_13 (Inv : Nat → Nat → Mem → Mem → Prop) (n K : Nat) (Mc Mm : Mem) (a1 a2 a3 a4 a5 : Int32) : Prop :=
  P_X11_as K Mc a1 a2 (fun r Mc1 => P_X12_as Mm a1 a2 (fun r2 Mm1 => r = r2 ∧ Inv (n + 1) K Mc1 Mm1))
def LO_14 (Inv : Nat → Nat → Mem → Mem → Prop) (n K : Nat) (Mc Mm : Mem) (a1 a2 a3 a4 a5 : Int32) : Prop :=
  P_X11_goes K Mc a1 a2 (fun r Mc1 => P_X12_goes Mm a1 a2 (fun r2 Mm1 => r = r2 ∧ Inv (n + 1) K Mc1 Mm1))
def LO_15 (Inv : Nat → Nat → Mem → Mem → Prop) (n K : Nat) (Mc Mm : Mem) (a1 a2 a3 a4 a5 : Int32) : Prop :=
  P_X11_content K Mc (fun r Mc1 => P_X12_content Mm (fun r2 Mm1 => r = r2 ∧ Inv (n + 1) K Mc1 Mm1))
def LO_16 (Inv : Nat → Nat → Mem → Mem → Prop) (n K : Nat) (Mc Mm : Mem) (a1 a2 a3 a4 a5 : Int32) : Prop :=
  P_X11_feed K Mc ((a1.toInt64 <<< ((32 : Int32).toInt64 &&& 63)) ||| (a2.toInt64 &&& 4294967295)) a3 (fun r Mc1 => P_X12_feed Mm ((a1.toInt64 <<< ((32 : Int32).toInt64 &&& 63)) ||| (a2.toInt64 &&& 4294967295)) a3 (fun r2 Mm1 => r = r2 ∧ Inv (n + 1) K Mc1 Mm1))
def LO_17 (Inv : Nat → Nat → Mem → Mem → Prop) (n K : Nat) (Mc Mm : Mem) (a1 a2 a3 a4 a5 : Int32) : Prop :=
  P_X11_text K Mc a1 (fun r K1 Mc1 => P_X12_text Mm a1 (fun r2 Mm1 => r = r2 ∧ Inv (n + 1) K1 Mc1 Mm1))
def LO_18 (Inv : Nat → Nat → Mem → Mem → Prop) (n K : Nat) (Mc Mm : Mem) (a1 a2 a3 a4 a5 : Int32) : Prop :=
  P_X11_law K Mc a1 a2 a3 a4 (fun r Mc1 => P_X12_law Mm a1 a2 a3 a4 (fun r2 Mm1 => r = r2 ∧ Inv (n + 1) K Mc1 Mm1))
def LO_19 (Inv : Nat → Nat → Mem → Mem → Prop) (n K : Nat) (Mc Mm : Mem) (a1 a2 a3 a4 a5 : Int32) : Prop :=
  P_X11_turn K Mc a1 (fun r Mc1 => P_X12_turn Mm a1 (fun r2 Mm1 => r = r2 ∧ Inv (n + 1) K Mc1 Mm1))
def LO_20 (Inv : Nat → Nat → Mem → Mem → Prop) (n K : Nat) (Mc Mm : Mem) (a1 a2 a3 a4 a5 : Int32) : Prop :=
  P_X11_hours K Mc a1 (fun r Mc1 => P_X12_hours Mm a1 (fun r2 Mm1 => r = r2 ∧ Inv (n + 1) K Mc1 Mm1))
def LO_21 (Inv : Nat → Nat → Mem → Mem → Prop) (n K : Nat) (Mc Mm : Mem) (a1 a2 a3 a4 a5 : Int32) : Prop :=
  P_X11_loose K Mc a1 (fun r Mc1 => P_X12_loose Mm a1 (fun r2 Mm1 => r = r2 ∧ Inv (n + 1) K Mc1 Mm1))
def LO_22 (Inv : Nat → Nat → Mem → Mem → Prop) (n K : Nat) (Mc Mm : Mem) (a1 a2 a3 a4 a5 : Int32) : Prop :=
  P_X11_hour K Mc a1 (fun r Mc1 => P_X12_hour Mm a1 (fun r2 Mm1 => r = r2 ∧ Inv (n + 1) K Mc1 Mm1))
def LO_23 (Inv : Nat → Nat → Mem → Mem → Prop) (n K : Nat) (Mc Mm : Mem) (a1 a2 a3 a4 a5 : Int32) : Prop :=
  P_X11_lock K Mc a1 a2 (fun r Mc1 => P_X12_lock Mm a1 a2 (fun r2 Mm1 => r = r2 ∧ Inv (n + 1) K Mc1 Mm1))
def LO_24 (Inv : Nat → Nat → Mem → Mem → Prop) (n K : Nat) (Mc Mm : Mem) (a1 a2 a3 a4 a5 : Int32) : Prop :=
  P_X11_rests K Mc (fun r Mc1 => P_X12_rests Mm (fun r2 Mm1 => r = r2 ∧ Inv (n + 1) K Mc1 Mm1))
def LO_25 (Inv : Nat → Nat → Mem → Mem → Prop) (n K : Nat) (Mc Mm : Mem) (a1 a2 a3 a4 a5 : Int32) : Prop :=
  P_X11_then K Mc a1 a2 (fun r Mc1 => P_X12_then Mm a1 a2 (fun r2 Mm1 => r = r2 ∧ Inv (n + 1) K Mc1 Mm1))
def LO_26 (Inv : Nat → Nat → Mem → Mem → Prop) (n K : Nat) (Mc Mm : Mem) (a1 a2 a3 a4 a5 : Int32) : Prop :=
  P_X11_standings K Mc (fun r => P_X12_standings Mm (fun r2 Mm1 => r = r2 ∧ Inv (n + 1) K Mc Mm1))
def LO_27 (Inv : Nat → Nat → Mem → Mem → Prop) (n K : Nat) (Mc Mm : Mem) (a1 a2 a3 a4 a5 : Int32) : Prop :=
  P_X11_fewest K Mc a1 (fun r Mc1 => P_X12_fewest Mm a1 (fun r2 Mm1 => r = r2 ∧ Inv (n + 1) K Mc1 Mm1))
def LO_28 (Inv : Nat → Nat → Mem → Mem → Prop) (n K : Nat) (Mc Mm : Mem) (a1 a2 a3 a4 a5 : Int32) : Prop :=
  P_X11_most K Mc a1 (fun r Mc1 => P_X12_most Mm a1 (fun r2 Mm1 => r = r2 ∧ Inv (n + 1) K Mc1 Mm1))
def LO_29 (Inv : Nat → Nat → Mem → Mem → Prop) (n K : Nat) (Mc Mm : Mem) (a1 a2 a3 a4 a5 : Int32) : Prop :=
  P_X11_helps K Mc a1 (fun r Mc1 => P_X12_helps Mm a1 (fun r2 Mm1 => r = r2 ∧ Inv (n + 1) K Mc1 Mm1))
def LO_30 (Inv : Nat → Nat → Mem → Mem → Prop) (n K : Nat) (Mc Mm : Mem) (a1 a2 a3 a4 a5 : Int32) : Prop :=
  P_X11_who K Mc a1 (fun r Mc1 => P_X12_who Mm a1 (fun r2 Mm1 => r = r2 ∧ Inv (n + 1) K Mc1 Mm1))
def LO_31 (Inv : Nat → Nat → Mem → Mem → Prop) (n K : Nat) (Mc Mm : Mem) (a1 a2 a3 a4 a5 : Int32) : Prop :=
  P_X11_seed K Mc a1 (fun r Mc1 => P_X12_seed Mm a1 (fun r2 Mm1 => r = r2 ∧ Inv (n + 1) K Mc1 Mm1))
def LO_32 (Inv : Nat → Nat → Mem → Mem → Prop) (n K : Nat) (Mc Mm : Mem) (a1 a2 a3 a4 a5 : Int32) : Prop :=
  P_X11_voice K Mc a1 a2 a3 (fun r Mc1 => P_X12_voice Mm a1 a2 a3 (fun r2 Mm1 => r = r2 ∧ Inv (n + 1) K Mc1 Mm1))
def LO_33 (Inv : Nat → Nat → Mem → Mem → Prop) (n K : Nat) (Mc Mm : Mem) (a1 a2 a3 a4 a5 : Int32) : Prop :=
  P_X11_trace K Mc a1 (fun r Mc1 => P_X12_trace Mm a1 (fun r2 Mm1 => r = r2 ∧ Inv (n + 1) K Mc1 Mm1))
def LO_34 (Inv : Nat → Nat → Mem → Mem → Prop) (n K : Nat) (Mc Mm : Mem) (a1 a2 a3 a4 a5 : Int32) : Prop :=
  P_X11_sheet K Mc a1 a2 a3 (fun r Mc1 => P_X12_sheet Mm a1 a2 a3 (fun r2 Mm1 => r = r2 ∧ Inv (n + 1) K Mc1 Mm1))
def LO_35 (Inv : Nat → Nat → Mem → Mem → Prop) (n K : Nat) (Mc Mm : Mem) (a1 a2 a3 a4 a5 : Int32) : Prop :=
  P_X11_put K Mc a1 a2 a3 (fun r Mc1 => P_X12_put Mm a1 a2 a3 (fun r2 Mm1 => r = r2 ∧ Inv (n + 1) K Mc1 Mm1))
def LO_36 (Inv : Nat → Nat → Mem → Mem → Prop) (n K : Nat) (Mc Mm : Mem) (a1 a2 a3 a4 a5 : Int32) : Prop :=
  P_X11_move K Mc a1 a2 a3 a4 a5 (fun r Mc1 => P_X12_move Mm a1 a2 a3 a4 a5 (fun r2 Mm1 => r = r2 ∧ Inv (n + 1) K Mc1 Mm1))
def LO_37 (Inv : Nat → Nat → Mem → Mem → Prop) (n K : Nat) (Mc Mm : Mem) (a1 a2 a3 a4 a5 : Int32) : Prop :=
  P_X11_judge K Mc a1 (fun r Mc1 => P_X12_judge Mm a1 (fun r2 Mm1 => r = r2 ∧ Inv (n + 1) K Mc1 Mm1))
def LO_38 (Inv : Nat → Nat → Mem → Mem → Prop) (n K : Nat) (Mc Mm : Mem) (a1 a2 a3 a4 a5 : Int32) : Prop :=
  P_X11_image K Mc (fun r Mc1 => P_X12_image Mm (fun r2 Mm1 => r = r2 ∧ Inv (n + 1) K Mc1 Mm1))
def LO_39 (Inv : Nat → Nat → Mem → Mem → Prop) (n K : Nat) (Mc Mm : Mem) (a1 a2 a3 a4 a5 : Int32) : Prop :=
  P_X11_restore K Mc (fun r Mc1 => P_X12_restore Mm (fun r2 Mm1 => r = r2 ∧ Inv (n + 1) K Mc1 Mm1))
def LO_40 (Inv : Nat → Nat → Mem → Mem → Prop) (n K : Nat) (Mc Mm : Mem) (a1 a2 a3 a4 a5 : Int32) : Prop :=
  P_X11_tell K Mc a1 (fun r Mc1 => P_X12_tell Mm a1 (fun r2 Mm1 => r = r2 ∧ Inv (n + 1) K Mc1 Mm1))
def LO_41 (Inv : Nat → Nat → Mem → Mem → Prop) (n K : Nat) (Mc Mm : Mem) (a1 a2 a3 a4 a5 : Int32) : Prop :=
  P_X11_check K Mc (fun r Mc1 => P_X12_check Mm (fun r2 Mm1 => r = r2 ∧ Inv (n + 1) K Mc1 Mm1))
def LO_42 (Inv : Nat → Nat → Mem → Mem → Prop) (n K : Nat) (Mc Mm : Mem) (a1 a2 a3 a4 a5 : Int32) : Prop :=
  P_X11_count K Mc a1 (fun r Mc1 => P_X12_count Mm a1 (fun r2 Mm1 => r = r2 ∧ Inv (n + 1) K Mc1 Mm1))
def LO_43 (Inv : Nat → Nat → Mem → Mem → Prop) (n K : Nat) (Mc Mm : Mem) (a1 a2 a3 a4 a5 : Int32) : Prop :=
  P_X11_told K Mc a1 (fun r Mc1 => P_X12_told Mm a1 (fun r2 Mm1 => r = r2 ∧ Inv (n + 1) K Mc1 Mm1))
def LOK (Inv : Nat → Nat → Mem → Mem → Prop) : Prop := ∀ (n K : Nat) (Mc Mm : Mem) (a1 a2 a3 a4 a5 : Int32), n < 512 → Inv n K Mc Mm → (Inv (n + 1) K Mc Mm) ∧ LO_0 Inv n K Mc Mm a1 a2 a3 a4 a5 ∧ LO_1 Inv n K Mc Mm a1 a2 a3 a4 a5 ∧ LO_2 Inv n K Mc Mm a1 a2 a3 a4 a5 ∧ LO_3 Inv n K Mc Mm a1 a2 a3 a4 a5 ∧ LO_4 Inv n K Mc Mm a1 a2 a3 a4 a5 ∧ LO_5 Inv n K Mc Mm a1 a2 a3 a4 a5 ∧ LO_6 Inv n K Mc Mm a1 a2 a3 a4 a5 ∧ LO_7 Inv n K Mc Mm a1 a2 a3 a4 a5 ∧ LO_8 Inv n K Mc Mm a1 a2 a3 a4 a5 ∧ LO_9 Inv n K Mc Mm a1 a2 a3 a4 a5 ∧ LO_10 Inv n K Mc Mm a1 a2 a3 a4 a5 ∧ LO_11 Inv n K Mc Mm a1 a2 a3 a4 a5 ∧ LO_12 Inv n K Mc Mm a1 a2 a3 a4 a5 ∧ LO_13 Inv n K Mc Mm a1 a2 a3 a4 a5 ∧ LO_14 Inv n K Mc Mm a1 a2 a3 a4 a5 ∧ LO_15 Inv n K Mc Mm a1 a2 a3 a4 a5 ∧ LO_16 Inv n K Mc Mm a1 a2 a3 a4 a5 ∧ LO_17 Inv n K Mc Mm a1 a2 a3 a4 a5 ∧ LO_18 Inv n K Mc Mm a1 a2 a3 a4 a5 ∧ LO_19 Inv n K Mc Mm a1 a2 a3 a4 a5 ∧ LO_20 Inv n K Mc Mm a1 a2 a3 a4 a5 ∧ LO_21 Inv n K Mc Mm a1 a2 a3 a4 a5 ∧ LO_22 Inv n K Mc Mm a1 a2 a3 a4 a5 ∧ LO_23 Inv n K Mc Mm a1 a2 a3 a4 a5 ∧ LO_24 Inv n K Mc Mm a1 a2 a3 a4 a5 ∧ LO_25 Inv n K Mc Mm a1 a2 a3 a4 a5 ∧ LO_26 Inv n K Mc Mm a1 a2 a3 a4 a5 ∧ LO_27 Inv n K Mc Mm a1 a2 a3 a4 a5 ∧ LO_28 Inv n K Mc Mm a1 a2 a3 a4 a5 ∧ LO_29 Inv n K Mc Mm a1 a2 a3 a4 a5 ∧ LO_30 Inv n K Mc Mm a1 a2 a3 a4 a5 ∧ LO_31 Inv n K Mc Mm a1 a2 a3 a4 a5 ∧ LO_32 Inv n K Mc Mm a1 a2 a3 a4 a5 ∧ LO_33 Inv n K Mc Mm a1 a2 a3 a4 a5 ∧ LO_34 Inv n K Mc Mm a1 a2 a3 a4 a5 ∧ LO_35 Inv n K Mc Mm a1 a2 a3 a4 a5 ∧ LO_36 Inv n K Mc Mm a1 a2 a3 a4 a5 ∧ LO_37 Inv n K Mc Mm a1 a2 a3 a4 a5 ∧ LO_38 Inv n K Mc Mm a1 a2 a3 a4 a5 ∧ LO_39 Inv n K Mc Mm a1 a2 a3 a4 a5 ∧ LO_40 Inv n K Mc Mm a1 a2 a3 a4 a5 ∧ LO_41 Inv n K Mc Mm a1 a2 a3 a4 a5 ∧ LO_42 Inv n K Mc Mm a1 a2 a3 a4 a5 ∧ LO_43 Inv n K Mc Mm a1 a2 a3 a4 a5
section LAW2
variable {p : Program} {l : Launch} {e : Env} {s : State} {m : MethodId} {args : Array Value} {below : List Frame} {meth : Method} {c : Code} {H : Heap} {locs : List Loc} {cells slots : Nat} {Q : State → Prop} {T : Nat → ClassId} {D : va_G} {ad am : Nat → Nat} {K n k b L : Nat} {Mc Mm : Mem} {xs : Nat → Int32} {SA : Nat → Nat} {Inv : Nat → Nat → Mem → Mem → Prop}
set_option maxRecDepth 100000 in
set_option maxHeartbeats 4000000 in
theorem lc_0 (C : Cx T D p s m args c code 4 "OneOfTwoLaw") (hX : va_X b L xs s s.heap) (hbl : b < s.heap.size) (hk : k + 6 ≤ L) (hL : L ≤ 3072) (Z : LZ T D ad K am s Mc Mm H locs) (hXS : XS SA (fun q => s.heap.size ≤ q) s s.heap) (hO : AOs s) {ls : Array Slot} (hl : lv_has ls 4 [(0, .ref b), (1, .ref (ad 0)), (2, .ref (am 0)), (3, .int (nI k))]) (hcells : cells + 3 ≤ room_1.cells) (hslots : slots + 107 ≤ room_1.slots) (hB : LO_0 Inv n K Mc Mm (xs (k + 1)) (xs (k + 2)) (xs (k + 3)) (xs (k + 4)) (xs (k + 5)))
    (kk : ∀ (K1 : Nat) (ad1 : Nat → Nat) (Mc1 Mm1 : Mem) (H : Heap) (locs : List Loc) (ls : Array Slot), Inv (n + 1) K1 Mc1 Mm1 → LZ T D ad1 K1 am s Mc1 Mm1 H locs → lv_has ls 4 [(0, .ref b), (1, .ref (ad1 0)), (2, .ref (am 0)), (3, .int (nI k))] → W p l e room_1 s m args below meth c H locs (cells + 3) (slots + 107) Q (F0 m 1476 ls [])) : W p l e room_1 s m args below meth c H locs cells slots Q (F0 m 224 ls []) := by
  have hx := C.x
  have hb := C.b
  have hcs : cells + 0 ≤ room_1.cells ∧ slots + 0 ≤ room_1.slots := ⟨Nat.le_trans (Nat.le_add_right _ _) hcells, Nat.le_trans (Nat.le_add_right _ _) hslots⟩
  delta LO_0 at hB
  refine lv_aload_n hx hb dL_law_224 rfl (lv_at hl 1 rfl) ?_
  refine lv_aload_n hx hb dL_law_225 rfl (lv_at hl 0 rfl) ?_
  refine lv_iload_n hx hb dL_law_226 rfl (lv_at hl 3 rfl) ?_
  refine lv_iconst (v := 1) hx hb dL_law_227 (by decide) ?_
  refine lv_iadd hx hb dL_law_228 ?_
  refine s_ld (k := k) (j := 1) C.1 hX hbl Z.2.2.2.2.2.2.2 (by omega) hL (nI_add k 1) dL_law_229 ?_
  refine lv_aload_n hx hb dL_law_230 rfl (lv_at hl 0 rfl) ?_
  refine lv_iload_n hx hb dL_law_231 rfl (lv_at hl 3 rfl) ?_
  refine lv_iconst (v := 2) hx hb dL_law_232 (by decide) ?_
  refine lv_iadd hx hb dL_law_233 ?_
  refine s_ld (k := k) (j := 2) C.1 hX hbl Z.2.2.2.2.2.2.2 (by omega) hL (nI_add k 2) dL_law_234 ?_
  refine lk_C (rn_V (n := 2) (As := [.int (xs (k + 1)), .int (xs (k + 2))]) (rest := []) (c_X11_window hB) rfl rfl tw_2_49 tw_2_47 tw_2_48 tw_1_1 ⟨rfl, by decide, by decide, by decide +kernel⟩ rfl blW (rcC Z C) (fun U hU hW => ⟨rfl, lpC (SA := SA) Z C hU hW⟩) C.1 hl.1 tw_2_46 ⟨(Nat.le_of_ble_eq_true rfl), (Nat.le_of_ble_eq_true rfl)⟩ hcs (Nat.le_of_ble_eq_true rfl) rfl dL_law_235) Z (fun r M1 H locs hB Z => ?_)
  refine lv_aload_n hx hb dL_law_238 rfl (lv_at hl 2 rfl) ?_
  refine lv_aload_n hx hb dL_law_239 rfl (lv_at hl 0 rfl) ?_
  refine lv_iload_n hx hb dL_law_240 rfl (lv_at hl 3 rfl) ?_
  refine lv_iconst (v := 1) hx hb dL_law_241 (by decide) ?_
  refine lv_iadd hx hb dL_law_242 ?_
  refine s_ld (k := k) (j := 1) C.1 hX hbl Z.2.2.2.2.2.2.2 (by omega) hL (nI_add k 1) dL_law_243 ?_
  refine lv_aload_n hx hb dL_law_244 rfl (lv_at hl 0 rfl) ?_
  refine lv_iload_n hx hb dL_law_245 rfl (lv_at hl 3 rfl) ?_
  refine lv_iconst (v := 2) hx hb dL_law_246 (by decide) ?_
  refine lv_iadd hx hb dL_law_247 ?_
  refine s_ld (k := k) (j := 2) C.1 hX hbl Z.2.2.2.2.2.2.2 (by omega) hL (nI_add k 2) dL_law_248 ?_
  refine lk_M (rn_V (n := 2) (As := [.int (xs (k + 1)), .int (xs (k + 2))]) (rest := [.int r]) (c_X12_window hB) rfl rfl tw_6_24 tw_6_22 tw_6_23 tw_1_12 ⟨rfl, by decide, by decide, by decide +kernel⟩ rfl blW (rcM Z C) (fun U hU hW => ⟨rfl, lpM Z C hU hW⟩) C.1 hl.1 tw_6_21 ⟨(Nat.le_of_ble_eq_true rfl), (Nat.le_of_ble_eq_true rfl)⟩ hcs (Nat.le_of_ble_eq_true rfl) rfl dL_law_249) Z (fun r2 M2 H locs hB Z => ?_)
  refine lv_icmp_eq (tgt := 1476) hx hb dL_law_252 (by decide) (fun _ => ?_) (fun q => absurd hB.1 q)
  refine W.widen (k := cells + 3) (n := slots + 107) (Nat.le_add_right _ _) (Nat.le_add_right _ _) ?_
  exact kk K ad M1 M2 H locs ls hB.2 Z hl
end LAW2
