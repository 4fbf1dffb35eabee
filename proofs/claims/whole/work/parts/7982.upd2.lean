/-! a river is read: apart and with -/
def apC (c : Nat → Nat) (x y g i : Nat) : Nat := if i = 88 + 3 * c 12 then x else if i = 88 + 3 * c 12 + 1 then y else if i = 88 + 3 * c 12 + 2 then g else if i = 12 then c 12 + 1 else c i
theorem apC_ne {c : Nat → Nat} {x y g i : Nat} (h : ¬ (88 + 3 * c 12 ≤ i ∧ i ≤ 88 + 3 * c 12 + 2)) (h1 : ¬ i = 12) : apC c x y g i = c i := by
  unfold apC
  rw [if_neg (by omega), if_neg (by omega), if_neg (by omega), if_neg h1]
theorem apC_n {c : Nat → Nat} {x y g : Nat} : apC c x y g 12 = c 12 + 1 ∧ apC c x y g (88 + 3 * c 12) = x ∧ apC c x y g (88 + 3 * c 12 + 1) = y ∧ apC c x y g (88 + 3 * c 12 + 2) = g := by
  unfold apC
  refine ⟨?_, if_pos rfl, ?_, ?_⟩
  · rw [if_neg (by omega), if_neg (by omega), if_neg (by omega), if_pos rfl]
  · rw [if_neg (by omega), if_pos rfl]
  · rw [if_neg (by omega), if_neg (by omega), if_pos rfl]
theorem k_addA {X : Mem} {c : Nat → Nat} {x y g : Nat} (h : XRv 14 X c) (hw : WR c) (hn : c 12 < 12) : ∃ X', rv_addApart 14 (nI (2 ^ x ||| 2 ^ y)) (nI (if g = 0 then 0 else 2 ^ (g - 1))) X = some (1, X') ∧ XRv 14 X' (apC c x y g) ∧ (∀ r i, ¬ (14 ≤ r ∧ r < 22) → X' r i = X r i) := by
  have h13 : c 13 ≤ 12 := hw.2.2.2.2.2.2.1
  have h10 := WR_n hw
  obtain ⟨g0, g1, g2, g3, ⟨g4, g5, g6⟩, g7, g8, g9, g10, g11⟩ := id h
  have start : rv_addApart 14 (nI (2 ^ x ||| 2 ^ y)) (nI (if g = 0 then 0 else 2 ^ (g - 1))) X = some (1, wr (wr (wr X 19 (c 12) (nI (2 ^ x ||| 2 ^ y))) 20 (c 12) (nI (if g = 0 then 0 else 2 ^ (g - 1)))) 14 10 (nI (c 12 + 1))) := by
    have e1 : ∀ v, wr X 19 (c 12) v 14 10 = nI (c 12) := fun v => by rw [wr_ne (by omega), g8]
    have e2 : ∀ v v', wr (wr X 19 (c 12) v) 20 (c 12) v' 14 10 = nI (c 12) := fun v v' => by rw [wr_ne (by omega), e1]
    unfold rv_addApart
    rw [g8]
    simp (disch := omega) only [n_lit, n_lt, if_pos, chk_in, n_cl, lt1_ap, e1, e2, n_add]
  obtain ⟨a1, a2, a3, a4⟩ := apC_n (c := c) (x := x) (y := y) (g := g)
  have u : ∀ i, ¬ (88 + 3 * c 12 ≤ i ∧ i ≤ 88 + 3 * c 12 + 2) → ¬ i = 12 → apC c x y g i = c i := fun i a d => apC_ne a d
  generalize hc : apC c x y g = c' at *
  refine ⟨_, start, ⟨?_, ?_, fun b hb => ?_, ?_, ⟨?_, ?_, ?_⟩, fun q hq => ?_, by rw [wr_eq, a1], fun k hk => ?_, ?_, fun b hb => ?_⟩, fun r i hr => by rw [wr_ne (by omega), wr_ne (by omega), wr_ne (by omega)]⟩
  · rw [wr_ne (by omega), wr_ne (by omega), wr_ne (by omega), u _ (by omega) (by omega), g0]
  · rw [wr_ne (by omega), wr_ne (by omega), wr_ne (by omega), u _ (by omega) (by omega), g1]
  · rw [u 1 (by omega) (by omega)] at hb
    unfold kd st wt
    rw [wr_ne (by omega), wr_ne (by omega), wr_ne (by omega), wr_ne (by omega), wr_ne (by omega), wr_ne (by omega), wr_ne (by omega), wr_ne (by omega), wr_ne (by omega), u _ (by omega) (by omega), u _ (by omega) (by omega), u _ (by omega) (by omega)]
    exact g2 b hb
  · rw [wr_ne (by omega), wr_ne (by omega), wr_ne (by omega), g3, u 1 (by omega) (by omega)]
    congr 1
    refine mk_cong fun k hk => ?_
    unfold sm
    rw [u _ (by omega) (by omega)]
  · rw [wr_ne (by omega), wr_ne (by omega), wr_ne (by omega), u _ (by omega) (by omega), g4]
  · rw [wr_ne (by omega), wr_ne (by omega), wr_ne (by omega), u _ (by omega) (by omega), g5]
  · rw [wr_ne (by omega), wr_ne (by omega), wr_ne (by omega), u _ (by omega) (by omega), g6]
  · rw [wr_ne (by omega), wr_ne (by omega), wr_ne (by omega), u _ (by omega) (by omega), g7 q hq]
  · rw [a1] at hk
    by_cases q : k = c 12
    · rw [q, a2, a3, a4]
      refine ⟨?_, ?_⟩
      · rw [wr_ne (by omega), wr_ne (by omega), wr_eq]
      · rw [wr_ne (by omega), wr_eq]
    · have := g9 k (by omega)
      rw [u _ (by omega) (by omega), u _ (by omega) (by omega), u _ (by omega) (by omega)]
      refine ⟨?_, ?_⟩
      · rw [wr_ne (by omega), wr_ne (by omega), wr_ne (by omega), this.1]
      · rw [wr_ne (by omega), wr_ne (by omega), wr_ne (by omega), this.2]
  · rw [wr_ne (by omega), wr_ne (by omega), wr_ne (by omega), u _ (by omega) (by omega), g10]
  · rw [wr_ne (by omega), wr_ne (by omega), wr_ne (by omega), g11 b hb, u 13 (by omega) (by omega), co_c2 fun i a d => u i (by omega) (by omega)]
theorem EY_upd {M : Mem} {c : Nat → Nat} {j v : Nat} {x : Int32} (h : EY M c) (hj : j < 648) (hs : j = 8 ∨ (88 ≤ j ∧ j < 124 ∧ j % 3 = 0)) (hx : x = nI v - nI 1) : EY (wr M 1 j x) (up c j v) := fun i hi => by
  by_cases q : i = j
  · subst q
    unfold cI
    rw [wr_eq, if_pos hs, up_eq, hx]
  · rw [wr_ne (by omega), h i hi]
    unfold cI
    rw [up_ne q]
theorem r_addA {Y : Mem} {c : Nat → Nat} {x y g : Nat} {z : Int32} (h : EY Y c) (hf : Y 0 10 = -1) (hn : c 12 < 12) (hz : z = nI g - nI 1) : ∃ Y', md_riverLine_J289 (nI x) (nI y) z Y = some Y' ∧ EY Y' (apC c x y g) ∧ (∀ r i, ¬ (r = 1 ∧ i < 248) → Y' r i = Y r i) := by
  have e1 : Y 1 12 = nI (c 12) := EY_n h (i := 12) (by omega) (by omega)
  have E1 := EY_up x h (j := 88 + 3 * c 12) (by omega) (by omega)
  have E2 := EY_up y E1 (j := 88 + 3 * c 12 + 1) (by omega) (by omega)
  have E3 := EY_upd (v := g) (x := z) E2 (j := 88 + 3 * c 12 + 2) (by omega) (by omega) hz
  have E4 := EY_up (c 12 + 1) E3 (j := 12) (by omega) (by omega)
  refine ⟨_, ?_, EY_c E4 fun i hi => ?_, fun r i q => by rw [wr_ne (by omega), wr_ne (by omega), wr_ne (by omega), wr_ne (by omega)]⟩
  · have f1 : ∀ j v, ¬ j = 12 → wr Y 1 j v 1 12 = nI (c 12) := fun j v hj => by rw [wr_ne (by omega), e1]
    have f2 : ∀ j v j2 v2, ¬ j = 12 → ¬ j2 = 12 → wr (wr Y 1 j v) 1 j2 v2 1 12 = nI (c 12) := fun j v j2 v2 hj h2 => by rw [wr_ne (by omega), f1 _ _ hj]
    have f3 : ∀ j v j2 v2 j3 v3, ¬ j = 12 → ¬ j2 = 12 → ¬ j3 = 12 → wr (wr (wr Y 1 j v) 1 j2 v2) 1 j3 v3 1 12 = nI (c 12) := fun j v j2 v2 j3 v3 hj h2 h3 => by rw [wr_ne (by omega), f2 _ _ _ _ hj h2]
    unfold md_riverLine_J289
    rw [hf, if_pos rfl, e1]
    simp (disch := omega) only [n_lit, n_mul, n_add, chk_in, n_cl, lt1_ap, f1, f2, f3]
  · unfold apC up
    by_cases q : i = 12
    · rw [if_neg (by omega), if_neg (by omega), if_neg (by omega), if_pos q, if_pos q]
    · rw [if_neg q, if_neg q]
      by_cases q2 : i = 88 + 3 * c 12 + 2
      · rw [if_neg (by omega), if_neg (by omega), if_pos q2, if_pos q2]
      · rw [if_neg q2, if_neg q2]
        by_cases q1 : i = 88 + 3 * c 12 + 1
        · rw [if_neg (by omega), if_pos q1, if_pos q1]
        · rw [if_neg q1, if_neg q1]
def wiC (c : Nat → Nat) (x y i : Nat) : Nat := if i = 124 + 2 * c 13 then x else if i = 124 + 2 * c 13 + 1 then y else if i = 13 then c 13 + 1 else c i
theorem wiC_ne {c : Nat → Nat} {x y i : Nat} (h : ¬ (124 + 2 * c 13 ≤ i ∧ i ≤ 124 + 2 * c 13 + 1)) (h1 : ¬ i = 13) : wiC c x y i = c i := by
  unfold wiC
  rw [if_neg (by omega), if_neg (by omega), if_neg h1]
theorem wiC_n {c : Nat → Nat} {x y : Nat} : wiC c x y 13 = c 13 + 1 ∧ wiC c x y (124 + 2 * c 13) = x ∧ wiC c x y (124 + 2 * c 13 + 1) = y := by
  unfold wiC
  refine ⟨?_, if_pos rfl, ?_⟩
  · rw [if_neg (by omega), if_neg (by omega), if_pos rfl]
  · rw [if_neg (by omega), if_pos rfl]
theorem k_addW {X : Mem} {c : Nat → Nat} {x y : Nat} (h : XRv 14 X c) (hw : WR c) (hn : c 13 < 12) (hx : x < c 1) (hy : y < c 1) : ∃ X', rv_addWith 14 (nI x) (nI y) X = some (1, X') ∧ XRv 14 X' (wiC c x y) ∧ (∀ r i, ¬ (14 ≤ r ∧ r < 22) → X' r i = X r i) := by
  have h12 : c 12 ≤ 12 := hw.2.2.2.2.2.1
  have h10 := WR_n hw
  obtain ⟨g0, g1, g2, g3, ⟨g4, g5, g6⟩, g7, g8, g9, g10, g11⟩ := id h
  have start : rv_addWith 14 (nI x) (nI y) X = some (1, wr (wr X 21 x (nI (co c x (c 13) ||| 2 ^ y))) 14 13 (nI (c 13 + 1))) := by
    have e1 : ∀ v, wr X 21 x v 14 13 = nI (c 13) := fun v => by rw [wr_ne (by omega), g10]
    have e2 : X 21 x = nI (co c x (c 13)) := g11 x (by omega)
    have hB : rv_hasBeing 14 (nI x) X = some 1 := by
      unfold rv_hasBeing
      rw [g1, if_neg (by rw [show (0 : Int32) = nI 0 from rfl, n_lt (by omega) (by omega)]; omega), if_pos (by rw [n_lt (by omega) (by omega)]; omega)]
    unfold rv_addWith
    rw [g10, hB, bind_s, if_neg (show ¬ (1 : Int32) = 0 by decide)]
    simp (disch := omega) only [n_lit, n_lt, if_pos, chk_in, n_cl, lt1_ap, e1, n_add, n_m31, n_shl1]
    rw [e2, n_or]
  obtain ⟨a1, a2, a3⟩ := wiC_n (c := c) (x := x) (y := y)
  have u : ∀ i, ¬ (124 + 2 * c 13 ≤ i ∧ i ≤ 124 + 2 * c 13 + 1) → ¬ i = 13 → wiC c x y i = c i := fun i a d => wiC_ne a d
  generalize hc : wiC c x y = c' at *
  refine ⟨_, start, ⟨?_, ?_, fun b hb => ?_, ?_, ⟨?_, ?_, ?_⟩, fun q hq => ?_, ?_, fun k hk => ?_, by rw [wr_eq, a1], fun b hb => ?_⟩, fun r i hr => by rw [wr_ne (by omega), wr_ne (by omega)]⟩
  · rw [wr_ne (by omega), wr_ne (by omega), u _ (by omega) (by omega), g0]
  · rw [wr_ne (by omega), wr_ne (by omega), u _ (by omega) (by omega), g1]
  · rw [u 1 (by omega) (by omega)] at hb
    unfold kd st wt
    rw [wr_ne (by omega), wr_ne (by omega), wr_ne (by omega), wr_ne (by omega), wr_ne (by omega), wr_ne (by omega), u _ (by omega) (by omega), u _ (by omega) (by omega), u _ (by omega) (by omega)]
    exact g2 b hb
  · rw [wr_ne (by omega), wr_ne (by omega), g3, u 1 (by omega) (by omega)]
    congr 1
    refine mk_cong fun k hk => ?_
    unfold sm
    rw [u _ (by omega) (by omega)]
  · rw [wr_ne (by omega), wr_ne (by omega), u _ (by omega) (by omega), g4]
  · rw [wr_ne (by omega), wr_ne (by omega), u _ (by omega) (by omega), g5]
  · rw [wr_ne (by omega), wr_ne (by omega), u _ (by omega) (by omega), g6]
  · rw [wr_ne (by omega), wr_ne (by omega), u _ (by omega) (by omega), g7 q hq]
  · rw [wr_ne (by omega), wr_ne (by omega), u _ (by omega) (by omega), g8]
  · rw [u 12 (by omega) (by omega)] at hk
    rw [wr_ne (by omega), wr_ne (by omega), wr_ne (by omega), wr_ne (by omega), u _ (by omega) (by omega), u _ (by omega) (by omega), u _ (by omega) (by omega)]
    exact g9 k hk
  · have e3 : co c' b (c 13) = co c b (c 13) := co_c2 fun i a d => u i (by omega) (by omega)
    rw [a1]
    show _ = nI (if c' (124 + 2 * c 13) = b then co c' b (c 13) ||| 2 ^ c' (124 + 2 * c 13 + 1) else co c' b (c 13))
    rw [a2, a3, e3, wr_ne (by omega)]
    by_cases q : x = b
    · rw [if_pos q, q, wr_eq]
    · rw [if_neg q, wr_ne (by omega), g11 b hb]
theorem EY_wi {Y : Mem} {c : Nat → Nat} {x y : Nat} (h : EY Y c) (hn : c 13 < 12) : EY (wr (wr (wr Y 1 (124 + 2 * c 13) (nI x)) 1 (124 + 2 * c 13 + 1) (nI y)) 1 13 (nI (c 13 + 1))) (wiC c x y) := by
  have E1 := EY_up x h (j := 124 + 2 * c 13) (by omega) (by omega)
  have E2 := EY_up y E1 (j := 124 + 2 * c 13 + 1) (by omega) (by omega)
  have E4 := EY_up (c 13 + 1) E2 (j := 13) (by omega) (by omega)
  refine EY_c E4 fun i hi => ?_
  unfold wiC up
  by_cases q : i = 13
  · rw [if_neg (by omega), if_neg (by omega), if_pos q, if_pos q]
  · rw [if_neg q, if_neg q]
    by_cases q1 : i = 124 + 2 * c 13 + 1
    · rw [if_neg (by omega), if_pos q1, if_pos q1]
    · rw [if_neg q1, if_neg q1]
