/-! end, fault -/
theorem m_end {X Y : Mem} {n : Nat} {b : Nat → Nat} (h : TPE X Y n b) (p : Int32) : ∃ v X' Y' k, rf_end p X = some (v, X') ∧ md_end p Y = some (v, Y') ∧ TPE X' Y' k b ∧ (∀ r i, ¬ (r = 1 ∧ i = 1) → X' r i = X r i) ∧ (∀ r i, ¬ (r = 0 ∧ i = 0) → ¬ (r = 0 ∧ i = 6) → Y' r i = Y r i) := by
  obtain ⟨h1, h2, h3, h4⟩ := h
  have e6 : wr Y 0 0 0 0 6 = Y 0 6 := wr_ne (by decide)
  have out : ∀ r i, ¬ (r = 0 ∧ i = 0) → ¬ (r = 0 ∧ i = 6) → wr Y 0 0 0 r i = Y r i := fun r i h _ => wr_ne h
  have same : TPE X (wr Y 0 0 0) n b := ⟨h1, h2, e6.trans h3, fun i hi => ⟨(h4 i hi).1, by rw [wr_ne (by omega)]; exact (h4 i hi).2.1, (h4 i hi).2.2⟩⟩
  unfold rf_end md_end md_isIn
  simp only [lt1_ap]
  rw [e6, h3, h2]
  by_cases c1 : p < 0
  · rw [if_pos c1, if_pos c1, bind_s, if_pos rfl]
    exact ⟨0, X, _, n, rfl, rfl, same, fun _ _ _ => rfl, out⟩
  · rw [if_neg c1, if_neg c1]
    by_cases c2 : nI n < p
    · rw [if_pos c2, if_pos c2, bind_s, if_pos rfl]
      exact ⟨0, X, _, n, rfl, rfl, same, fun _ _ _ => rfl, out⟩
    · rw [if_neg c2, if_neg c2, bind_s, if_neg (by decide)]
      have hn : (nI n).toInt = (n : Int) := n_toI (by omega)
      have hp : ∃ k : Nat, k ≤ n ∧ p = nI k := by
        rw [Int32.lt_iff_toInt_lt, show (0 : Int32).toInt = 0 from rfl] at c1
        rw [Int32.lt_iff_toInt_lt, hn] at c2
        refine ⟨p.toInt.toNat, by omega, ?_⟩
        apply Int32.toInt_inj.mp
        rw [n_toI (by omega)]
        omega
      obtain ⟨k, hk, rfl⟩ := hp
      refine ⟨1, _, _, k, rfl, rfl, ⟨by omega, wr_eq, wr_eq, fun i hi => ?_⟩, fun r i h => wr_ne h, fun r i g1 g2 => (wr_ne g2).trans (wr_ne g1)⟩
      rw [wr_ne (by omega), wr_ne (by omega), wr_ne (by omega)]
      exact h4 i (by omega)
theorem m_fault {X Y : Mem} (h : X 0 16 = Y 0 10) : rf_fault X = some (X 0 16) ∧ md_fault Y = some (X 0 16, wr Y 0 0 0) := by
  refine ⟨rfl, ?_⟩
  unfold md_fault
  rw [lt1_ap, wr_ne (by decide), h]
