/-! the relation at the start -/
theorem rel0 : Rel sg0 := by
  refine ⟨⟨0, fun _ => 0, 0, fun _ => 0, ⟨by omega, rfl, fun i hi => by omega⟩, ⟨by omega, rfl, fun i hi => by omega⟩, ⟨by omega, rfl, fun i hi => by omega⟩, ⟨by omega, rfl, fun i hi => by omega⟩, rfl, rfl, by decide +kernel, by decide +kernel, ⟨by decide +kernel, by decide +kernel, fun r hr => absurd hr (by rw [show nrO 0 (fun _ => 0) = 0 by decide +kernel]; omega)⟩⟩, ⟨?_, by decide +kernel, by decide +kernel, by decide +kernel⟩, ⟨0, by omega, rfl, rfl, fun t ht => by omega⟩, ⟨0, by omega, rfl, rfl, fun t ht => by omega⟩, ?_, rfl, rfl, rfl⟩
  · intro k hk
    rcases (show k = 0 ∨ k = 1 ∨ k = 2 by omega) with rfl | rfl | rfl <;> rfl
  · intro s hs
    rcases (show s = 0 ∨ s = 1 ∨ s = 2 ∨ s = 3 by omega) with rfl | rfl | rfl | rfl <;> exact ⟨by decide +kernel, Or.inl (by decide +kernel)⟩
