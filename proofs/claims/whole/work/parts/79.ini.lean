/-! the two sides begin alike -/
theorem RelHolds : ∃ r, fX3_build iX3 iX2 = some r ∧ Rel (iX6 r) iX7 := by
  have hv : IncV 1 0 (fun _ => 0) := ⟨Nat.le_refl 1, by decide, by decide, fun f hf => absurd hf (Nat.not_lt_zero f)⟩
  have hy : IncR 1 0 (fun _ => 0) iX2 := ⟨rfl, rfl, fun f hf => absurd hf (Nat.not_lt_zero f)⟩
  obtain ⟨z, z1, z2⟩ := eX3_build iX3 hv hy
  exact ⟨z, z1, 1, 0, _, hv, hy, z2, ⟨rfl, rfl, fun f hf => absurd hf (Nat.not_lt_zero f)⟩, Or.inl rfl, HiR_of (c := 0) (d := 0) (H := fun _ => (0, 0, fun _ => 0)) (Nat.zero_le 8) (by decide) ⟨rfl, rfl, fun i hi => absurd hi (Nat.not_lt_zero i)⟩ (fun i hi => absurd hi (Nat.not_lt_zero i)) rfl, ⟨rfl, Or.inl rfl⟩, 0, fun _ => 0, Nat.zero_le _, rfl, rfl, fun k hk => absurd hk (Nat.not_lt_zero k)⟩
