/-! a river is read: what a line leaves well -/
theorem WR_m {c : Nat → Nat} {j v : Nat} (hw : WR c) (hj : 5 ≤ j ∧ j ≤ 7) (h5 : j = 5 → 1 ≤ v ∧ v ≤ 999) (h6 : j = 6 → v ≤ 99) (h7 : j = 7 → 1 ≤ v ∧ v ≤ 60) : WR (up c j v) := by
  have u : ∀ i, ¬ i = j → up c j v i = c i := fun i hi => up_ne hi
  obtain ⟨g0, g1, g2, g3, g4, g5, g6, g7, g8, g9, g10⟩ := hw
  refine ⟨by rw [u _ (by omega)]; exact g0, by rw [u _ (by omega)]; exact g1, ?_, ?_, ?_, by rw [u _ (by omega)]; exact g5, by rw [u _ (by omega)]; exact g6, fun h hh => by rw [u _ (by omega)]; exact g7 h hh, fun b hb => ?_, fun k hk => ?_, fun k hk => ?_⟩
  · by_cases q : 5 = j
    · rw [q, up_eq]; exact h5 q.symm
    · rw [u _ q]; exact g2
  · by_cases q : 6 = j
    · rw [q, up_eq]; exact h6 q.symm
    · rw [u _ q]; exact g3
  · by_cases q : 7 = j
    · rw [q, up_eq]; exact h7 q.symm
    · rw [u _ q]; exact g4
  · rw [u _ (by omega)] at hb
    unfold kd st wt sm
    rw [u _ (by omega), u _ (by omega), u _ (by omega), u _ (by omega)]
    exact g8 b hb
  · rw [u _ (by omega)] at hk
    rw [u _ (by omega), u _ (by omega), u _ (by omega), u _ (by omega)]
    exact g9 k hk
  · rw [u _ (by omega)] at hk
    rw [u _ (by omega), u _ (by omega), u _ (by omega)]
    exact g10 k hk
theorem WR_s {c : Nat → Nat} {H S : Nat} (hw : WR c) (hS : S ≤ 9) : WR (strC c H S) := by
  have u : ∀ i, (i < 14 ∨ 38 ≤ i) → strC c H S i = c i := fun i hi => if_neg (by omega)
  obtain ⟨g0, g1, g2, g3, g4, g5, g6, g7, g8, g9, g10⟩ := hw
  refine ⟨by rw [u _ (by omega)]; exact g0, by rw [u _ (by omega)]; exact g1, by rw [u _ (by omega)]; exact g2, by rw [u _ (by omega)]; exact g3, by rw [u _ (by omega)]; exact g4, by rw [u _ (by omega)]; exact g5, by rw [u _ (by omega)]; exact g6, fun h hh => ?_, fun b hb => ?_, fun k hk => ?_, fun k hk => ?_⟩
  · have := g7 h hh
    unfold strC
    split <;> omega
  · rw [u _ (by omega)] at hb
    unfold kd st wt sm
    rw [u _ (by omega), u _ (by omega), u _ (by omega), u _ (by omega)]
    exact g8 b hb
  · rw [u _ (by omega)] at hk
    rw [u _ (by omega), u _ (by omega), u _ (by omega), u _ (by omega)]
    exact g9 k hk
  · rw [u _ (by omega)] at hk
    rw [u _ (by omega), u _ (by omega), u _ (by omega)]
    exact g10 k hk
theorem WR_b {c : Nat → Nat} {k s w m : Nat} (hw : WR c) (hn : c 1 < 10) (hk : k ≤ 3) (hs : s ≤ 9) (hw1 : 1 ≤ w) (hw2 : w ≤ 99) (hm : m ≤ 1) : WR (addB c k s w m) := by
  have u : ∀ i, ¬ (38 + 5 * c 1 ≤ i ∧ i ≤ 38 + 5 * c 1 + 4) → ¬ i = 1 → addB c k s w m i = c i := fun i a d => addB_ne a d
  have u1 : addB c k s w m 1 = c 1 + 1 := addB_1
  obtain ⟨n1, n2, n3, n4, n5⟩ := addB_n (c := c) (k := k) (s := s) (w := w) (m := m)
  generalize addB c k s w m = c' at *
  obtain ⟨g0, g1, g2, g3, g4, g5, g6, g7, g8, g9, g10⟩ := hw
  refine ⟨by rw [u _ (by omega) (by omega)]; exact g0, by omega, by rw [u _ (by omega) (by omega)]; exact g2, by rw [u _ (by omega) (by omega)]; exact g3, by rw [u _ (by omega) (by omega)]; exact g4, by rw [u _ (by omega) (by omega)]; exact g5, by rw [u _ (by omega) (by omega)]; exact g6, fun h hh => by rw [u _ (by omega) (by omega)]; exact g7 h hh, fun b hb => ?_, fun q hq => ?_, fun q hq => ?_⟩
  · by_cases q : b = c 1
    · rw [q, n1, n2, n3, n4]
      exact ⟨hk, hs, hw1, hw2, hm⟩
    · have := g8 b (by omega)
      unfold kd st wt sm
      rw [u _ (by omega) (by omega), u _ (by omega) (by omega), u _ (by omega) (by omega), u _ (by omega) (by omega)]
      exact this
  · rw [u 12 (by omega) (by omega)] at hq
    have := g9 q hq
    rw [u1, u _ (by omega) (by omega), u _ (by omega) (by omega), u _ (by omega) (by omega)]
    omega
  · rw [u 13 (by omega) (by omega)] at hq
    have := g10 q hq
    rw [u1, u _ (by omega) (by omega), u _ (by omega) (by omega)]
    omega
theorem WR_a {c : Nat → Nat} {x y g : Nat} (hw : WR c) (hn : c 12 < 12) (hx : x < c 1) (hy : y < c 1) (hg : g ≤ c 1) : WR (apC c x y g) := by
  have u : ∀ i, ¬ (88 + 3 * c 12 ≤ i ∧ i ≤ 88 + 3 * c 12 + 2) → ¬ i = 12 → apC c x y g i = c i := fun i a d => apC_ne a d
  obtain ⟨a1, a2, a3, a4⟩ := apC_n (c := c) (x := x) (y := y) (g := g)
  generalize apC c x y g = c' at *
  obtain ⟨g0, g1, g2, g3, g4, g5, g6, g7, g8, g9, g10⟩ := hw
  have e1 := u 1 (by omega) (by omega)
  refine ⟨by rw [u _ (by omega) (by omega)]; exact g0, by omega, by rw [u _ (by omega) (by omega)]; exact g2, by rw [u _ (by omega) (by omega)]; exact g3, by rw [u _ (by omega) (by omega)]; exact g4, by omega, by rw [u _ (by omega) (by omega)]; exact g6, fun h hh => by rw [u _ (by omega) (by omega)]; exact g7 h hh, fun b hb => ?_, fun q hq => ?_, fun q hq => ?_⟩
  · rw [e1] at hb
    unfold kd st wt sm
    rw [u _ (by omega) (by omega), u _ (by omega) (by omega), u _ (by omega) (by omega), u _ (by omega) (by omega)]
    exact g8 b hb
  · rw [e1]
    by_cases q2 : q = c 12
    · rw [q2, a2, a3, a4]
      exact ⟨hx, hy, hg⟩
    · rw [u _ (by omega) (by omega), u _ (by omega) (by omega), u _ (by omega) (by omega)]
      exact g9 q (by omega)
  · rw [u 13 (by omega) (by omega)] at hq
    rw [e1, u _ (by omega) (by omega), u _ (by omega) (by omega)]
    exact g10 q hq
theorem WR_w {c : Nat → Nat} {x y : Nat} (hw : WR c) (hn : c 13 < 12) (hx : x < c 1) (hy : y < c 1) : WR (wiC c x y) := by
  have u : ∀ i, ¬ (124 + 2 * c 13 ≤ i ∧ i ≤ 124 + 2 * c 13 + 1) → ¬ i = 13 → wiC c x y i = c i := fun i a d => wiC_ne a d
  obtain ⟨a1, a2, a3⟩ := wiC_n (c := c) (x := x) (y := y)
  generalize wiC c x y = c' at *
  obtain ⟨g0, g1, g2, g3, g4, g5, g6, g7, g8, g9, g10⟩ := hw
  have e1 := u 1 (by omega) (by omega)
  refine ⟨by rw [u _ (by omega) (by omega)]; exact g0, by omega, by rw [u _ (by omega) (by omega)]; exact g2, by rw [u _ (by omega) (by omega)]; exact g3, by rw [u _ (by omega) (by omega)]; exact g4, by rw [u _ (by omega) (by omega)]; exact g5, by omega, fun h hh => by rw [u _ (by omega) (by omega)]; exact g7 h hh, fun b hb => ?_, fun q hq => ?_, fun q hq => ?_⟩
  · rw [e1] at hb
    unfold kd st wt sm
    rw [u _ (by omega) (by omega), u _ (by omega) (by omega), u _ (by omega) (by omega), u _ (by omega) (by omega)]
    exact g8 b hb
  · rw [u 12 (by omega) (by omega)] at hq
    rw [e1, u _ (by omega) (by omega), u _ (by omega) (by omega), u _ (by omega) (by omega)]
    exact g9 q hq
  · rw [e1]
    by_cases q2 : q = c 13
    · rw [q2, a2, a3]
      exact ⟨hx, hy⟩
    · rw [u _ (by omega) (by omega), u _ (by omega) (by omega)]
      exact g10 q (by omega)
/-- the banks are kept -/
def KP (c c' : Nat → Nat) : Prop := c 1 ≤ c' 1 ∧ c' 0 = c 0 ∧ (∀ i, ((2 ≤ i ∧ i ≤ 4) ∨ (8 ≤ i ∧ i ≤ 11) ∨ 148 ≤ i) → c' i = c i) ∧ ∀ b, b < 10 → td c' b = td c b ∨ (c 1 ≤ b ∧ td c' b = 0)
theorem KP_rfl {c : Nat → Nat} : KP c c := ⟨Nat.le_refl _, rfl, fun _ _ => rfl, fun _ _ => Or.inl rfl⟩
theorem KP_tr {c c' c2 : Nat → Nat} (h : KP c c') (h2 : KP c' c2) : KP c c2 := by
  refine ⟨Nat.le_trans h.1 h2.1, h2.2.1.trans h.2.1, fun i hi => (h2.2.2.1 i hi).trans (h.2.2.1 i hi), fun b hb => ?_⟩
  have h1 := h.1
  rcases h2.2.2.2 b hb with a | ⟨a1, a2⟩
  · rcases h.2.2.2 b hb with d | ⟨d1, d2⟩
    · exact Or.inl (a.trans d)
    · exact Or.inr ⟨d1, a.trans d2⟩
  · exact Or.inr ⟨by omega, a2⟩
theorem KP_eq {c c' : Nat → Nat} (h : ∀ i, (i < 5 ∨ (8 ≤ i ∧ i ≤ 11) ∨ 148 ≤ i ∨ (38 ≤ i ∧ i < 88)) → c' i = c i) : KP c c' := ⟨by rw [h 1 (by omega)]; exact Nat.le_refl _, h 0 (by omega), fun i hi => h i (by omega), fun b hb => Or.inl (by unfold td; exact h _ (by omega))⟩
theorem KP_b {c : Nat → Nat} {k s w m : Nat} (hn : c 1 < 10) : KP c (addB c k s w m) := by
  refine ⟨by rw [addB_1]; omega, addB_ne (by omega) (by omega), fun i hi => addB_ne (by omega) (by omega), fun b hb => ?_⟩
  by_cases q : b = c 1
  · exact Or.inr ⟨by omega, by rw [q]; exact addB_n.2.2.2.2⟩
  · exact Or.inl (by unfold td; exact addB_ne (by omega) (by omega))
