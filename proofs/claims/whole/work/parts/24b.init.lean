theorem i_vc0 : wpX_init (fun u => wpY_init (fun v => i_Rel 0 u v)) := by
  refine ⟨0, 0, 0, 0, fun _ => 0, fun _ => 0, fun _ => 0, fun _ => 0, fun _ _ => 0, fun _ => [], fun _ => [], fun _ => 0, fun _ => 0, ⟨rfl, rfl, rfl, rfl, rfl, rfl, rfl, rfl, rfl, rfl, rfl, rfl, rfl, rfl, rfl, rfl, rfl, rfl, rfl⟩, ?_⟩
  refine ⟨by omega, by omega, fun _ => Nat.zero_le _, fun _ => Nat.zero_le _, fun i hi => absurd hi (Nat.not_lt_zero _), fun f i _ hi => absurd hi (Nat.not_lt_zero _), Or.inl rfl, Or.inl ⟨rfl, rfl, rfl⟩, fun f _ => Or.inl rfl⟩
