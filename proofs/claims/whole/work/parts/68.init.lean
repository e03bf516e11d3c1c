theorem og_Inv0 : om_Inv om_M0 := by
  refine ⟨0, 0, 0, ⟨⟨by omega, by omega, rfl, rfl, rfl, rfl⟩, ⟨fun i _ => ?_, fun p hp => absurd hp (by omega)⟩, fun p hp => absurd hp (by omega), fun k hk => absurd hk (by omega), fun k l hk => absurd hk (by omega)⟩, ⟨by omega, rfl, rfl, fun i hi => absurd hi (by omega)⟩, ⟨30, 38, 0, fun _ => 0, fun _ => 0, .inl ⟨rfl, rfl⟩, rfl, rfl, by omega, rfl, rfl, ⟨rfl, rfl, fun i hi => absurd hi (by omega)⟩, rfl, .inl rfl⟩, fun j hj => ?_, rfl⟩
  · show om_b 0 i = false
    exact om_b_0 i
  · have : j = 0 ∨ j = 1 ∨ j = 2 ∨ j = 3 ∨ j = 4 ∨ j = 5 ∨ j = 6 ∨ j = 7 := by omega
    rcases this with rfl | rfl | rfl | rfl | rfl | rfl | rfl | rfl <;> rfl
