/-! the start -/
def c00 (i : Nat) : Nat := if i = 5 then 200 else if i = 6 then 20 else if i = 7 then 10 else if 14 ≤ i ∧ i < 38 then 2 else if 88 ≤ i ∧ i < 124 ∧ i % 3 = 0 then 1 else 0
set_option maxRecDepth 20000 in
set_option maxHeartbeats 4000000 in
theorem s0_XR : XRv 6 (cut LM 0 95) c00 := by
  unfold XRv
  refine ⟨?_, ?_, fun b hb => absurd hb (Nat.not_lt_zero b), ?_, ⟨?_, ?_, ?_⟩, ?_, ?_, fun k hk => absurd hk (Nat.not_lt_zero k), ?_, ?_⟩
  · decide +kernel
  · decide +kernel
  · decide +kernel
  · decide +kernel
  · decide +kernel
  · decide +kernel
  · decide +kernel
  · decide +kernel
  · decide +kernel
  · decide +kernel
set_option maxRecDepth 20000 in
set_option maxHeartbeats 4000000 in
theorem s0_XB : XB 30 (cut LM 0 95) c00 := by
  unfold XB
  have h : ∀ a, a < 10 → ∀ b, b < 10 → (cut LM 0 95) (30 + 2 + 1 + a) b = nI (pu c00 a b) := by decide +kernel
  refine ⟨?_, ?_, ?_, ?_, ?_, ?_, fun a b ha hb => h a ha b hb⟩
  · decide +kernel
  · decide +kernel
  · decide +kernel
  · decide +kernel
  · decide +kernel
  · decide +kernel
set_option maxRecDepth 20000 in
set_option maxHeartbeats 4000000 in
theorem s0_EY : EY (cut LM 95 16) c00 := by
  unfold EY
  decide +kernel
theorem s0_WR : WR c00 := by
  unfold WR
  refine ⟨by decide, by decide, by decide, by decide, by decide, by decide, by decide, by decide, fun b hb => absurd hb (Nat.not_lt_zero b), fun k hk => absurd hk (Nat.not_lt_zero k), fun k hk => absurd hk (Nat.not_lt_zero k)⟩
theorem s0_WB : WB 0 c00 := by
  unfold WB
  have h1 : ∀ b, b < 10 → td c00 b = 0 := by decide +kernel
  have h2 : ∀ a, a < 10 → ∀ b, b < 10 → pu c00 a b = 0 := by decide +kernel
  refine ⟨by decide, by decide, by decide, by decide, by decide, fun b hb => ⟨by rw [h1 b hb]; decide, fun _ => h1 b hb⟩, fun a b ha hb => ⟨by rw [h2 a ha b hb]; decide, fun _ => h2 a ha b hb⟩⟩
set_option maxRecDepth 20000 in
set_option maxHeartbeats 4000000 in
theorem s0_few : (cut LM 0 95) 76 0 = nI 0 ∧ (cut LM 0 95) 77 0 = nI 0 ∧ (cut LM 0 95) 78 0 = nI 0 ∧ (cut LM 0 95) 1 1 = nI 0 ∧ (cut LM 95 16) 0 6 = nI 0 ∧ (cut LM 0 95) 0 16 = (cut LM 95 16) 0 10 ∧ (cut LM 0 95) 58 0 = -1 ∧ (cut LM 0 95) 0 15 = 0 ∧ (cut LM 95 16) 0 3 = 0 := by decide +kernel
theorem JV_start : JV 512 (cut LM 0 95) (cut LM 95 16) := by
  obtain ⟨h1, h2, h3, h4, h5, h6, h7, h8, h9⟩ := s0_few
  exact ⟨0, c00, 0, _, by omega, ⟨s0_XR, s0_XB, s0_WR, s0_WB, s0_EY, h1, h2, h3⟩, TPE_0 h4 h5, h6, Or.inl ⟨rfl, h7⟩, Or.inl ⟨h8, h9⟩⟩
