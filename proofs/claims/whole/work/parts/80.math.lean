/-- the mathematics: the class and the reference go the same way -/
theorem math : ∃ Inv : Nat → Mem → Mem → Prop, SpAll Inv ∧ Inv 512 (cut LM 0 95) (cut LM 95 16) := ⟨JV, JV_all, JV_start⟩
