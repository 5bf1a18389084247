theorem GN_is : ∃ n : Nat, n = 100 := ⟨_, rfl⟩
/-- how deep a recursive group may go: a number that nothing unfolds -/
noncomputable def GNN : Nat := Classical.choose GN_is
theorem GN_eq : GNN = 100 := Classical.choose_spec GN_is
