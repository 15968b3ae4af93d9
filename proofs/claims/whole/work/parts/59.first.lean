/-! ===== at the start ===== -/
def a00 : Nat → Nat := updN (fun _ => 0) 8 1
theorem a00_n {k : Nat} (h : k ≠ 8) : a00 k = 0 := updN_n h
theorem m0c_z {k : Nat} (h1 : k ≠ 30) (h2 : k ≠ 43) (h3 : k ≠ 56) (h4 : k ≠ 35) (h5 : k ≠ 48) (h6 : k ≠ 61) : M0c k = fun _ => 0 := by
  unfold M0c
  rw [if_neg (by omega), if_neg (by omega)]
theorem m0c_30 {j : Nat} (h : j ≠ 15) : M0c 30 j = nI 0 := by
  show (if j = 15 then (1 : Int32) else 0) = nI 0
  rw [if_neg h]
  rfl
theorem inv_start : Inv 0 0 M0c M0m := by
  have z : ∀ {k : Nat}, k ≠ 8 → a00 k = 0 := fun h => a00_n h
  have d : DOK a00 := by
    unfold DOK
    rw [z (k := 0) (by omega), z (k := 1) (by omega), z (k := 2) (by omega), z (k := 3) (by omega), z (k := 4) (by omega), z (k := 5) (by omega), z (k := 6) (by omega), z (k := 7) (by omega), z (k := 9) (by omega), z (k := 10) (by omega), z (k := 90) (by omega), z (k := 91) (by omega)]
    exact ⟨by omega, by omega, fun w hw => absurd hw (by omega), fun w hw => absurd hw (by omega), by omega, fun i hi => by rw [z (by omega)]; omega, fun i hi => by rw [z (by omega)]; omega, fun c c1 c2 => by omega⟩
  refine ⟨a00, a00, fun _ _ _ _ => 0, fun _ _ _ _ => 0, fun _ _ _ _ => 0, 0, 0, ⟨by omega, by omega, by omega, by omega, by omega⟩, fun p hp => ⟨0, by rw [m0c_z (by omega) (by omega) (by omega) (by omega) (by omega) (by omega)]; rfl, by omega, by omega, fun h => absurd h (by omega)⟩, ⟨⟨?_, fun u hu => Or.inl ⟨z (by omega), ?_⟩, fun l hl => ?_⟩, fun k hk => ?_, d, fun u hu hp => ?_⟩, ⟨⟨fun j hj => by show (15 : Int32).toNatClampNeg < 69 + 0; decide, fun j hj => by rw [m0c_z (by omega) (by omega) (by omega) (by omega) (by omega) (by omega)]; show (0 : Int32).toNatClampNeg < 69 + 0; decide⟩, Or.inl ⟨rfl, fun j hj => by show (15 : Int32).toNatClampNeg < 69 + 0; decide, fun j hj => by rw [m0c_z (by omega) (by omega) (by omega) (by omega) (by omega) (by omega)]; show (0 : Int32).toNatClampNeg < 69 + 0; decide⟩⟩, ?_, ?_, ?_, fun k hk => ?_, ⟨0, by omega, ?_, ?_, fun i hi => absurd hi (by omega)⟩, fun s hs => ⟨0, 0, by omega, by omega, ?_, ?_, ?_, ?_, fun i hi o ho => ?_⟩⟩
  · unfold HR
    rw [z (k := 0) (by omega), z (k := 1) (by omega), z (k := 2) (by omega), z (k := 3) (by omega), z (k := 4) (by omega), z (k := 5) (by omega), z (k := 6) (by omega), z (k := 7) (by omega), z (k := 9) (by omega), z (k := 10) (by omega), show a00 8 = 1 from rfl]
    rw [m0c_30 (j := 0) (by omega), m0c_30 (j := 1) (by omega), m0c_30 (j := 2) (by omega), m0c_30 (j := 10) (by omega), m0c_30 (j := 11) (by omega), m0c_30 (j := 12) (by omega), m0c_30 (j := 13) (by omega), m0c_30 (j := 14) (by omega)]
    refine ⟨⟨rfl, rfl, rfl⟩, ⟨rfl, rfl, rfl, rfl, rfl, rfl⟩, fun w hw => absurd hw (by omega), fun w hw => absurd hw (by omega), ⟨?_, fun i hi => absurd hi (by omega)⟩, ?_, fun i hi => absurd hi (by omega)⟩
    · rw [m0c_z (by omega) (by omega) (by omega) (by omega) (by omega) (by omega)]; rfl
    · rw [m0c_z (by omega) (by omega) (by omega) (by omega) (by omega) (by omega)]; rfl
  · rw [m0c_z (by omega) (by omega) (by omega) (by omega) (by omega) (by omega)]
  · exact Or.inl rfl
  · show (if 1 = 1 then upd (fun _ => 0) 8 1 else fun _ => 0) k = _
    rw [if_pos rfl]
    by_cases q : k = 8
    · rw [q]; rfl
    · rw [pk_un q, z q]; rfl
  · rw [z (by omega)] at hp
    exact absurd hp (by omega)
  · rw [m0c_z (by omega) (by omega) (by omega) (by omega) (by omega) (by omega)]; rfl
  · rfl
  · rw [m0c_z (by omega) (by omega) (by omega) (by omega) (by omega) (by omega)]; rfl
  · rw [m0c_z (by omega) (by omega) (by omega) (by omega) (by omega) (by omega)]; rfl
  · rw [m0c_z (by omega) (by omega) (by omega) (by omega) (by omega) (by omega)]; rfl
  · rfl
  · rw [m0c_z (by omega) (by omega) (by omega) (by omega) (by omega) (by omega)]; rfl
  · rfl
  · rw [m0c_z (by omega) (by omega) (by omega) (by omega) (by omega) (by omega)]; rfl
  · rfl
  · rw [m0c_z (by omega) (by omega) (by omega) (by omega) (by omega) (by omega)]
    exact Iff.rfl
