/-! the mathematics: the tape of the one and of the other -/
theorem wr_eq {M : Mem} {r i : Nat} {v : Int32} : wr M r i v r i = v := if_pos ⟨rfl, rfl⟩
theorem wr_ne {M : Mem} {r i r' i' : Nat} {v : Int32} (h : ¬ (r' = r ∧ i' = i)) : wr M r i v r' i' = M r' i' := if_neg h
def IvT (X Y : Mem) : Prop := ∃ n : Nat, n ≤ 400 ∧ X 1 1 = Int32.ofNat n ∧ Y 0 6 = Int32.ofNat n ∧ ∀ i, i < n → X 2 i = Y 4 i
theorem m_end {X Y : Mem} (h : IvT X Y) (p : Int32) : ∃ v X' Y', rf_end p X = some (v, X') ∧ md_end p Y = some (v, Y') ∧ IvT X' Y' ∧ (∀ r i, ¬ (r = 1 ∧ i = 1) → X' r i = X r i) ∧ (∀ r i, ¬ (r = 0 ∧ i = 0) → ¬ (r = 0 ∧ i = 6) → Y' r i = Y r i) := by
  obtain ⟨n, h1, h2, h3, h4⟩ := h
  have e6 : wr Y 0 0 0 0 6 = Y 0 6 := wr_ne (by decide)
  have out : ∀ r i, ¬ (r = 0 ∧ i = 0) → ¬ (r = 0 ∧ i = 6) → wr Y 0 0 0 r i = Y r i := fun r i h _ => wr_ne h
  unfold rf_end md_end lt1 md_isIn
  dsimp only
  rw [e6, h3, h2]
  by_cases c1 : p < 0
  · rw [if_pos c1, if_pos c1]
    exact ⟨0, X, _, rfl, rfl, ⟨n, h1, h2, e6.trans h3, fun i hi => h4 i hi⟩, fun _ _ _ => rfl, out⟩
  · rw [if_neg c1, if_neg c1]
    by_cases c2 : Int32.ofNat n < p
    · rw [if_pos c2, if_pos c2]
      exact ⟨0, X, _, rfl, rfl, ⟨n, h1, h2, e6.trans h3, fun i hi => h4 i hi⟩, fun _ _ _ => rfl, out⟩
    · rw [if_neg c2, if_neg c2]
      have hn : (Int32.ofNat n).toInt = (n : Int) := nI_toInt (n := n) (by omega)
      have hp : ∃ k : Nat, k ≤ n ∧ p = Int32.ofNat k := by
        rw [Int32.lt_iff_toInt_lt, show (0 : Int32).toInt = 0 from rfl] at c1
        rw [Int32.lt_iff_toInt_lt, hn] at c2
        refine ⟨p.toInt.toNat, by omega, ?_⟩
        apply Int32.toInt_inj.mp
        rw [show (Int32.ofNat p.toInt.toNat).toInt = ((p.toInt.toNat : Nat) : Int) from nI_toInt (n := p.toInt.toNat) (by omega)]
        omega
      obtain ⟨k, hk, rfl⟩ := hp
      refine ⟨1, _, _, rfl, rfl, ⟨k, by omega, wr_eq, wr_eq, fun i hi => ?_⟩, fun r i h => wr_ne h, fun r i g1 g2 => (wr_ne g2).trans (wr_ne g1)⟩
      rw [wr_ne (by omega), wr_ne (by omega), wr_ne (by omega)]
      exact h4 i (by omega)
