/-- the mathematics: the class and the reference go the same way -/
theorem math : ∃ Inv : Mem → Mem → Prop, SpAll Inv ∧ Inv (cut LM 0 95) (cut LM 95 16) := by
  sorry
