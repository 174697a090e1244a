theorem zPure {xs : Nat → Int32} {L : Nat} (hL : L ≤ 6) : ∃ (N : Nat) (S0 S' : St × List (Nat × Nat) × Nat × Nat), fLaw_0st = some S0 ∧ fLaw N xs (L / 6) 0 S0 = some S' := by
  obtain ⟨z, I, e, h⟩ := zF0_0
  have hd : L / 6 = 0 ∨ L / 6 = 1 := by omega
  rcases hd with hd | hd
  · exact ⟨2001, _, _, e, by rw [hd]; rfl⟩
  · obtain ⟨S, hS⟩ := zone h (fun j => xs (6 * 0 + j))
    exact ⟨2001, _, S, e, by rw [hd]; unfold fLaw; rw [hS]; rfl⟩
