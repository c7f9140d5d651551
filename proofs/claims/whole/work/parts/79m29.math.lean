theorem zV : lyW (fun _ _ => 0) := ⟨fun j => by show (-4 : Int) ≤ 0 ∧ (0 : Int) ≤ 51; omega, fun j => by show (-1 : Int) ≤ 0 ∧ (0 : Int) ≤ 51; omega, fun j => by show (0 : Int) ≤ 0 ∧ (0 : Int) ≤ 13; omega, by show (0 : Int) ≤ 0 ∧ (0 : Int) ≤ 52; omega, by show (0 : Int) ≤ 0 ∧ (0 : Int) ≤ 52; omega⟩
theorem zM : mtV (fun _ _ => 0) := ⟨fun j => by show (0 : Int) ≤ 0 ∧ (0 : Int) ≤ 51; omega, fun j => by show (0 : Int) ≤ 0 ∧ (0 : Int) ≤ 52; omega, fun j => by show (-1 : Int) ≤ 0 ∧ (0 : Int) ≤ 51; omega, fun j => by show (0 : Int) ≤ 0 ∧ (0 : Int) ≤ 13; omega, fun j => by show (0 : Int) ≤ 0 ∧ (0 : Int) ≤ 1; omega, fun j => by show (0 : Int) ≤ 0 ∧ (0 : Int) ≤ 51; omega⟩
theorem gmV0 : gmV G0 := by
  refine ⟨?_, ?_, ?_, ?_, ?_, ?_⟩
  · show (2 : Int) ≤ 8 ∧ (8 : Int) ≤ 8; omega
  · show (0 : Int) ≤ 4 ∧ (4 : Int) ≤ 4; omega
  · show (0 : Int) ≤ 0 ∧ (0 : Int) ≤ 2; omega
  · show (0 : Int) ≤ 0 ∧ (0 : Int) ≤ 2; omega
  · show (1 : Int) ≤ 4 ∧ (4 : Int) ≤ 4; omega
  · show (1 : Int) ≤ 13 ∧ (13 : Int) ≤ 13; omega
/-- they begin alike -/
theorem RT0 : RT T0 N0 A0 := by
  have hY : lyW Y0 := yCl_V zV
  refine ⟨⟨gmV0, hY, ⟨fun j => by show (0 : Int) ≤ 0 ∧ (0 : Int) ≤ 51; omega, fun j => by show (0 : Int) ≤ 0 ∧ (0 : Int) ≤ 12; omega, fun j => by show (0 : Int) ≤ 0 ∧ (0 : Int) ≤ 12; omega, fun j => by show (0 : Int) ≤ 0 ∧ (0 : Int) ≤ 13; omega, by show (0 : Int) ≤ 0 ∧ (0 : Int) < 60; omega, by show (0 : Int) ≤ 0 ∧ (0 : Int) ≤ 60; omega⟩, ⟨fun j => by show iR 0; omega, fun j => by show (0 : Int) ≤ 0 ∧ (0 : Int) ≤ 300; omega, fun j => by show (0 : Int) ≤ 0 ∧ (0 : Int) ≤ 200; omega, fun j => hY⟩, fun j => by show (0 : Int) ≤ 0 ∧ (0 : Int) ≤ 51; omega⟩, ⟨mWA_V zM, ?_, Or.inl rfl, Or.inl rfl, mWA_8 fun j _ => by show (0 : Int) ≤ 0; omega⟩, ⟨by show (-1 : Int) ≤ -1 ∧ (-1 : Int) ≤ 300; omega, by show (0 : Int) ≤ 0 ∧ (0 : Int) ≤ 200; omega, rfl, rfl⟩, fun _ => [], [], SR.wipe (G := G0) (Y := fun _ _ => 0) (A := fun _ _ => 0) gmV0, LR.nil rfl rfl rfl, trivial, fun w => absurd rfl w⟩
  exact ⟨fun j => by show (0 : Int) ≤ 0 ∧ (0 : Int) ≤ 61; omega, fun j => by show iR 0; omega, fun j => by show (0 : Int) ≤ 0 ∧ (0 : Int) ≤ 1; omega, fun j => by show (0 : Int) ≤ 0 ∧ (0 : Int) ≤ 202; omega, fun j => by show (0 : Int) ≤ 0 ∧ (0 : Int) ≤ 52; omega, fun j => by show (0 : Int) ≤ 0 ∧ (0 : Int) ≤ 1; omega, by show (0 : Int) ≤ 0 ∧ (0 : Int) ≤ 52; omega, by show (0 : Int) ≤ 0 ∧ (0 : Int) ≤ 52; omega⟩
