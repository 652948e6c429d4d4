/-! What holds at the start -/
theorem Jv_0 : Jv 0 (fun _ _ _ => 0) (fun _ _ _ => 0) := by
  have z0 : (0 : Int) ≤ 0 := Int.le_refl 0
  have iv : RIv 160 0 0 (fun _ => 0) (fun _ => 0) := RIv.nil (by omega)
  refine ⟨fun _ _ => 0, fun j j0 j1 => ⟨rfl, z0, z0⟩, ⟨rfl, ⟨z0, by show (0 : Int) ≤ 160; omega⟩, rfl, fun q _ _ => z0⟩, ⟨rfl, rfl, rfl, by show (0 : Int) ≤ 400; omega, fun k _ _ => rfl, rfl⟩, ⟨z0, by show (0 : Int) < 8; omega⟩, ⟨z0, by show (0 : Int) ≤ 6; omega⟩, rfl, ⟨z0, by show (0 : Int) < 6; omega⟩, fun q _ => rfl, fun j j0 j1 => ?_, Or.inl rfl⟩
  have ej : j = 0 := by have : j ≤ 0 := j1; omega
  subst ej
  have er : rwJ (fun _ _ _ => 0) 0 = fun _ => 0 := by funext k; exact if_pos rfl
  rw [er]
  have es : slO (fun _ _ _ => 0) 0 = 10 := rfl
  rw [es]
  refine ⟨rfl, iv.good (by omega), iv.cda (by omega) ⟨iv.2.2.1.1, ⟨rfl, fun k k0 k1 => ?_⟩, fun k k0 k1 => ?_, rfl, ?_, fun k k0 k1 => ?_⟩, rfl, fun m m0 m1 => ?_⟩
  · have : k < 0 := k1
    omega
  · have : k < 0 := k1
    omega
  · show (0 : Int) ≤ 160
    omega
  · have : k < 0 := k1
    omega
  · have : m < 0 := m1
    omega
