/-! a river is read: what a line adds -/
theorem ne_m1 {v : Nat} (h : v < 2147483648) : ¬ nI v = -1 := by
  rw [show (-1 : Int32) = -nI 1 from rfl, n_ng h (by omega) (by omega)]
  exact id
theorem or_pow {a n : Nat} (h : a < 2 ^ n) : a ||| 2 ^ n = a + 2 ^ n := by
  have := Nat.two_pow_add_eq_or_of_lt h 1
  rw [Nat.mul_one] at this
  rw [Nat.or_comm, ← this, Nat.add_comm]
theorem co_c2 {c c' : Nat → Nat} {b : Nat} : ∀ {n : Nat}, (∀ i, 124 ≤ i → i < 124 + 2 * n → c' i = c i) → co c' b n = co c b n
  | 0, _ => rfl
  | n + 1, e => by
    unfold co
    rw [co_c2 (fun i h1 h2 => e i h1 (by omega)), e _ (by omega) (by omega), e _ (by omega) (by omega)]
theorem GS_upd {X Y X' Y' : Mem} {b : Nat → Nat} {e a p : Nat} {c c' : Nat → Nat} (h : GS X Y b e c a p) (hX : ∀ r i, ¬ (14 ≤ r ∧ r < 22) → X' r i = X r i) (hR : XRv 14 X' c') (hY : ∀ r i, ¬ (r = 1 ∧ i < 248) → Y' r i = Y r i) (hE : EY Y' c') (hw : WR c') : GS X' Y' b e c' a p := by
  obtain ⟨h1, h2, h3, h4, h5, h6, h7, h8, h9⟩ := h
  exact ⟨TPo_cong h1 fun r i hr => hX r i (by omega), hR, LTx_cong h3 fun r i hr => hY r i (by omega), hE, by rw [hY _ _ (by omega), h5], by rw [hY _ _ (by omega), h6], h7, h8, hw⟩
/-- a measure -/
theorem XR_m {X : Mem} {c : Nat → Nat} {j v : Nat} (h : XRv 14 X c) (hw : WR c) (hj : 6 ≤ j ∧ j ≤ 8) : XRv 14 (wr X 14 j (nI v)) (up c (j - 1) v) := by
  have h13 : c 13 ≤ 12 := hw.2.2.2.2.2.2.1
  have h10 := WR_n hw
  have h12 : c 12 ≤ 12 := hw.2.2.2.2.2.1
  have u : ∀ i, ¬ i = j - 1 → up c (j - 1) v i = c i := fun i hi => up_ne hi
  have m : ∀ k, 6 ≤ k → k ≤ 8 → X 14 k = nI (c (k - 1)) → wr X 14 j (nI v) 14 k = nI (up c (j - 1) v (k - 1)) := fun k h1 h2 hk => by
    by_cases q : k = j
    · rw [q, wr_eq, up_eq]
    · rw [wr_ne (by omega), u _ (by omega), hk]
  obtain ⟨h0, h1, h2, h3, ⟨h4, h5, h6⟩, h7, h8, h9, h10', h11⟩ := h
  refine ⟨?_, ?_, fun b hb => ?_, ?_, ⟨m 6 (by omega) (by omega) h4, m 7 (by omega) (by omega) h5, m 8 (by omega) (by omega) h6⟩, fun q hq => ?_, ?_, fun k hk => ?_, ?_, fun b hb => ?_⟩
  · rw [wr_ne (by omega), u _ (by omega), h0]
  · rw [wr_ne (by omega), u _ (by omega), h1]
  · rw [u _ (by omega)] at hb
    unfold kd st wt
    rw [wr_ne (by omega), wr_ne (by omega), wr_ne (by omega), u _ (by omega), u _ (by omega), u _ (by omega)]
    exact h2 b hb
  · rw [wr_ne (by omega), h3, u 1 (by omega)]
    congr 1
    refine mk_cong fun k hk => ?_
    unfold sm
    rw [u _ (by omega)]
  · rw [wr_ne (by omega), u _ (by omega), h7 q hq]
  · rw [wr_ne (by omega), u _ (by omega), h8]
  · rw [u 12 (by omega)] at hk
    rw [wr_ne (by omega), wr_ne (by omega), u _ (by omega), u _ (by omega), u _ (by omega)]
    exact h9 k hk
  · rw [wr_ne (by omega), u _ (by omega), h10']
  · rw [wr_ne (by omega), h11 b hb, u 13 (by omega), co_c2 fun i a d => u i (by omega)]
/-- the stream -/
def strC (c : Nat → Nat) (H S i : Nat) : Nat := if 14 + H ≤ i ∧ i < 38 then S else c i
theorem XR_s {X X' : Mem} {c : Nat → Nat} {H S : Nat} (h : XRv 14 X c) (hw : WR c) (h1 : ∀ k, H ≤ k → k < 24 → X' 18 k = nI S) (h2 : ∀ r i, ¬ (r = 18 ∧ H ≤ i ∧ i < 24) → X' r i = X r i) : XRv 14 X' (strC c H S) := by
  have h13 : c 13 ≤ 12 := hw.2.2.2.2.2.2.1
  have h10 := WR_n hw
  have h12 : c 12 ≤ 12 := hw.2.2.2.2.2.1
  have u : ∀ i, (i < 14 ∨ 38 ≤ i) → strC c H S i = c i := fun i hi => if_neg (by omega)
  obtain ⟨g0, g1, g2, g3, ⟨g4, g5, g6⟩, g7, g8, g9, g10, g11⟩ := h
  refine ⟨?_, ?_, fun b hb => ?_, ?_, ⟨?_, ?_, ?_⟩, fun q hq => ?_, ?_, fun k hk => ?_, ?_, fun b hb => ?_⟩
  · rw [h2 _ _ (by omega), u _ (by omega), g0]
  · rw [h2 _ _ (by omega), u _ (by omega), g1]
  · rw [u _ (by omega)] at hb
    unfold kd st wt
    rw [h2 _ _ (by omega), h2 _ _ (by omega), h2 _ _ (by omega), u _ (by omega), u _ (by omega), u _ (by omega)]
    exact g2 b hb
  · rw [h2 _ _ (by omega), g3, u 1 (by omega)]
    congr 1
    refine mk_cong fun k hk => ?_
    unfold sm
    rw [u _ (by omega)]
  · rw [h2 _ _ (by omega), u _ (by omega), g4]
  · rw [h2 _ _ (by omega), u _ (by omega), g5]
  · rw [h2 _ _ (by omega), u _ (by omega), g6]
  · by_cases q2 : H ≤ q
    · rw [h1 q q2 hq]
      unfold strC
      rw [if_pos (by omega)]
    · rw [h2 _ _ (by omega), g7 q hq]
      unfold strC
      rw [if_neg (by omega)]
  · rw [h2 _ _ (by omega), u _ (by omega), g8]
  · rw [u 12 (by omega)] at hk
    rw [h2 _ _ (by omega), h2 _ _ (by omega), u _ (by omega), u _ (by omega), u _ (by omega)]
    exact g9 k hk
  · rw [h2 _ _ (by omega), u _ (by omega), g10]
  · rw [h2 _ _ (by omega), g11 b hb, u 13 (by omega), co_c2 fun i a d => u i (by omega)]
theorem kst_L {S : Nat} {p1 : Int32} {K : Mem → Option Mem} : ∀ m k fu (M : Mem), k + m = 24 → m < fu → ∃ M', rv_setStream_L6 14 p1 (nI S) K fu (nI k) M = K M' ∧ (∀ i, k ≤ i → i < 24 → M' 18 i = nI S) ∧ (∀ r i, ¬ (r = 18 ∧ k ≤ i ∧ i < 24) → M' r i = M r i)
  | 0, k, 0, M, _, hf => absurd hf (by omega)
  | 0, k, fu + 1, M, hk, _ => by
    refine ⟨M, ?_, fun i a d => by omega, fun r i _ => rfl⟩
    rw [rv_setStream_L6]
    simp (disch := omega) only [n_lit, n_lt, if_neg]
  | m + 1, k, 0, M, _, hf => absurd hf (by omega)
  | m + 1, k, fu + 1, M, hk, hf => by
    obtain ⟨M', e1, e2, e3⟩ := kst_L (S := S) (p1 := p1) (K := K) m (k + 1) fu (wr M 18 k (nI S)) (by omega) (by omega)
    refine ⟨M', ?_, fun i a d => ?_, fun r i q => by rw [e3 r i (by omega), wr_ne (by omega)]⟩
    · rw [rv_setStream_L6]
      simp (disch := omega) only [n_lit, n_lt, if_pos, chk_in, n_cl, lt1_ap, n_add]
      exact e1
    · by_cases q : i = k
      · rw [q, e3 _ _ (by omega), wr_eq]
      · exact e2 i (by omega) d
theorem rst_L {S : Nat} {K : Mem → Option Mem} : ∀ m k fu (M : Mem), k + m = 24 → m < fu → M 0 10 = -1 → ∃ M', md_riverLine_L187 (nI S) K fu (nI k) M = K M' ∧ (∀ i, 14 + k ≤ i → i < 38 → M' 1 i = nI S) ∧ (∀ r i, ¬ (r = 1 ∧ 14 + k ≤ i ∧ i < 38) → M' r i = M r i)
  | 0, k, 0, M, _, hf, _ => absurd hf (by omega)
  | 0, k, fu + 1, M, hk, _, _ => by
    refine ⟨M, ?_, fun i a d => by omega, fun r i _ => rfl⟩
    rw [md_riverLine_L187]
    simp (disch := omega) only [n_lit, n_lt, if_neg]
  | m + 1, k, 0, M, _, hf, _ => absurd hf (by omega)
  | m + 1, k, fu + 1, M, hk, hf, h10 => by
    obtain ⟨M', e1, e2, e3⟩ := rst_L (S := S) (K := K) m (k + 1) fu (wr M 1 (14 + k) (nI S)) (by omega) (by omega) (by rw [wr_ne (by omega), h10])
    refine ⟨M', ?_, fun i a d => ?_, fun r i q => by rw [e3 r i (by omega), wr_ne (by omega)]⟩
    · rw [md_riverLine_L187, h10, if_pos rfl]
      simp (disch := omega) only [n_lit, n_lt, if_pos, chk_in, n_cl, lt1_ap, n_add]
      exact e1
    · by_cases q : i = 14 + k
      · rw [q, e3 _ _ (by omega), wr_eq]
      · exact e2 i (by omega) d
theorem EY_s {M M' : Mem} {c : Nat → Nat} {H S : Nat} (h : EY M c) (h1 : ∀ i, 14 + H ≤ i → i < 38 → M' 1 i = nI S) (h2 : ∀ i, ¬ (14 + H ≤ i ∧ i < 38) → M' 1 i = M 1 i) : EY M' (strC c H S) := fun i hi => by
  unfold cI strC
  by_cases q : 14 + H ≤ i ∧ i < 38
  · rw [if_neg (by omega), if_pos q, h1 i q.1 q.2]
  · rw [if_neg q, h2 i q, h i hi]
    rfl
/-- a being -/
def addB (c : Nat → Nat) (k s w m i : Nat) : Nat := if i = 38 + 5 * c 1 + 0 then k else if i = 38 + 5 * c 1 + 1 then s else if i = 38 + 5 * c 1 + 2 then w else if i = 38 + 5 * c 1 + 3 then m else if i = 38 + 5 * c 1 + 4 then 0 else if i = 1 then c 1 + 1 else c i
theorem addB_ne {c : Nat → Nat} {k s w m i : Nat} (h : ¬ (38 + 5 * c 1 ≤ i ∧ i ≤ 38 + 5 * c 1 + 4)) (h1 : ¬ i = 1) : addB c k s w m i = c i := by
  unfold addB
  rw [if_neg (by omega), if_neg (by omega), if_neg (by omega), if_neg (by omega), if_neg (by omega), if_neg h1]
theorem addB_1 {c : Nat → Nat} {k s w m : Nat} : addB c k s w m 1 = c 1 + 1 := by
  unfold addB
  rw [if_neg (by omega), if_neg (by omega), if_neg (by omega), if_neg (by omega), if_neg (by omega), if_pos rfl]
theorem addB_n {c : Nat → Nat} {k s w m : Nat} : kd (addB c k s w m) (c 1) = k ∧ st (addB c k s w m) (c 1) = s ∧ wt (addB c k s w m) (c 1) = w ∧ sm (addB c k s w m) (c 1) = m ∧ td (addB c k s w m) (c 1) = 0 := by
  unfold kd st wt sm td addB
  refine ⟨if_pos rfl, ?_, ?_, ?_, ?_⟩
  · rw [if_neg (by omega), if_pos rfl]
  · rw [if_neg (by omega), if_neg (by omega), if_pos rfl]
  · rw [if_neg (by omega), if_neg (by omega), if_neg (by omega), if_pos rfl]
  · rw [if_neg (by omega), if_neg (by omega), if_neg (by omega), if_neg (by omega), if_pos rfl]
theorem k_addB {X : Mem} {c : Nat → Nat} {k s w : Nat} {m : Bool} (h : XRv 14 X c) (hw : WR c) (hn : c 1 < 10) : ∃ X', rv_addBeing 14 (nI k) (nI s) (nI w) (bI m) X = some (1, X') ∧ XRv 14 X' (addB c k s w (if m = true then 1 else 0)) ∧ (∀ r i, ¬ (14 ≤ r ∧ r < 22) → X' r i = X r i) := by
  have h13 : c 13 ≤ 12 := hw.2.2.2.2.2.2.1
  have h12 : c 12 ≤ 12 := hw.2.2.2.2.2.1
  obtain ⟨g0, g1, g2, g3, ⟨g4, g5, g6⟩, g7, g8, g9, g10, g11⟩ := id h
  have start : rv_addBeing 14 (nI k) (nI s) (nI w) (bI m) X = some (1, wr (wr (wr (wr (wr X 15 (c 1) (nI k)) 16 (c 1) (nI s)) 17 (c 1) (nI w)) 14 5 (nI (mk (fun b => decide (sm c b = 1)) (c 1) + if m = true then 2 ^ c 1 else 0))) 14 1 (nI (c 1 + 1))) := by
    have e1 : ∀ v, wr X 15 (c 1) v 14 1 = nI (c 1) := fun v => by rw [wr_ne (by omega), g1]
    have e2 : ∀ v v', wr (wr X 15 (c 1) v) 16 (c 1) v' 14 1 = nI (c 1) := fun v v' => by rw [wr_ne (by omega), e1]
    have e3 : ∀ v v' v'', wr (wr (wr X 15 (c 1) v) 16 (c 1) v') 17 (c 1) v'' 14 1 = nI (c 1) := fun v v' v'' => by rw [wr_ne (by omega), e2]
    have e5 : ∀ v v' v'', wr (wr (wr X 15 (c 1) v) 16 (c 1) v') 17 (c 1) v'' 14 5 = nI (mk (fun b => decide (sm c b = 1)) (c 1)) := fun v v' v'' => by rw [wr_ne (by omega), wr_ne (by omega), wr_ne (by omega), g3]
    have e6 : ∀ v v' v'' x, wr (wr (wr (wr X 15 (c 1) v) 16 (c 1) v') 17 (c 1) v'') 14 5 x 14 1 = nI (c 1) := fun v v' v'' x => by rw [wr_ne (by omega), e3]
    have hmk := mk_lt (fun b => decide (sm c b = 1)) (c 1)
    unfold rv_addBeing
    rw [g1]
    simp (disch := omega) only [n_lit, n_lt, if_pos, chk_in, n_cl, lt1_ap, e1, e2, e3, e5, e6]
    cases m
    · rw [if_pos (show bI false = nI 0 from rfl), n_or, Nat.or_zero, n_add, if_neg (by decide)]
      rfl
    · rw [if_neg (by decide), n_m31 (by omega), n_shl1 (by omega), n_or, or_pow hmk, n_add, if_pos rfl]
  have u : ∀ i, ¬ (38 + 5 * c 1 ≤ i ∧ i ≤ 38 + 5 * c 1 + 4) → ¬ i = 1 → addB c k s w (if m = true then 1 else 0) i = c i := fun i a d => addB_ne a d
  have u1 : addB c k s w (if m = true then 1 else 0) 1 = c 1 + 1 := addB_1
  obtain ⟨n1, n2, n3, n4, n5⟩ := addB_n (c := c) (k := k) (s := s) (w := w) (m := if m = true then 1 else 0)
  generalize hc : addB c k s w (if m = true then 1 else 0) = c' at *
  refine ⟨_, start, ⟨?_, by rw [wr_eq, u1], fun b hb => ?_, ?_, ⟨?_, ?_, ?_⟩, fun q hq => ?_, ?_, fun k hk => ?_, ?_, fun b hb => ?_⟩, fun r i hr => by rw [wr_ne (by omega), wr_ne (by omega), wr_ne (by omega), wr_ne (by omega), wr_ne (by omega)]⟩
  · rw [wr_ne (by omega), wr_ne (by omega), wr_ne (by omega), wr_ne (by omega), wr_ne (by omega), u _ (by omega) (by omega), g0]
  · rw [u1] at hb
    by_cases q : b = c 1
    · rw [q, n1, n2, n3]
      refine ⟨?_, ?_, ?_⟩
      · rw [wr_ne (by omega), wr_ne (by omega), wr_ne (by omega), wr_ne (by omega), wr_eq]
      · rw [wr_ne (by omega), wr_ne (by omega), wr_ne (by omega), wr_eq]
      · rw [wr_ne (by omega), wr_ne (by omega), wr_eq]
    · have := g2 b (by omega)
      unfold kd st wt
      rw [u _ (by omega) (by omega), u _ (by omega) (by omega), u _ (by omega) (by omega)]
      refine ⟨?_, ?_, ?_⟩
      · rw [wr_ne (by omega), wr_ne (by omega), wr_ne (by omega), wr_ne (by omega), wr_ne (by omega), this.1]
      · rw [wr_ne (by omega), wr_ne (by omega), wr_ne (by omega), wr_ne (by omega), wr_ne (by omega), this.2.1]
      · rw [wr_ne (by omega), wr_ne (by omega), wr_ne (by omega), wr_ne (by omega), wr_ne (by omega), this.2.2]
  · rw [wr_ne (by omega), wr_eq, u1]
    have e1 : mk (fun b => decide (sm c' b = 1)) (c 1) = mk (fun b => decide (sm c b = 1)) (c 1) := mk_cong fun k hk => by
      unfold sm
      rw [u _ (by omega) (by omega)]
    show _ = nI (mk (fun b => decide (sm c' b = 1)) (c 1) + if decide (sm c' (c 1) = 1) = true then 2 ^ c 1 else 0)
    rw [e1, n4]
    cases m
    · rfl
    · rfl
  · rw [wr_ne (by omega), wr_ne (by omega), wr_ne (by omega), wr_ne (by omega), wr_ne (by omega), u _ (by omega) (by omega), g4]
  · rw [wr_ne (by omega), wr_ne (by omega), wr_ne (by omega), wr_ne (by omega), wr_ne (by omega), u _ (by omega) (by omega), g5]
  · rw [wr_ne (by omega), wr_ne (by omega), wr_ne (by omega), wr_ne (by omega), wr_ne (by omega), u _ (by omega) (by omega), g6]
  · rw [wr_ne (by omega), wr_ne (by omega), wr_ne (by omega), wr_ne (by omega), wr_ne (by omega), u _ (by omega) (by omega), g7 q hq]
  · rw [wr_ne (by omega), wr_ne (by omega), wr_ne (by omega), wr_ne (by omega), wr_ne (by omega), u _ (by omega) (by omega), g8]
  · rw [u 12 (by omega) (by omega)] at hk
    rw [wr_ne (by omega), wr_ne (by omega), wr_ne (by omega), wr_ne (by omega), wr_ne (by omega), wr_ne (by omega), wr_ne (by omega), wr_ne (by omega), wr_ne (by omega), wr_ne (by omega), u _ (by omega) (by omega), u _ (by omega) (by omega), u _ (by omega) (by omega)]
    exact g9 k hk
  · rw [wr_ne (by omega), wr_ne (by omega), wr_ne (by omega), wr_ne (by omega), wr_ne (by omega), u _ (by omega) (by omega), g10]
  · rw [wr_ne (by omega), wr_ne (by omega), wr_ne (by omega), wr_ne (by omega), wr_ne (by omega), g11 b hb, u 13 (by omega) (by omega), co_c2 fun i a d => u i (by omega) (by omega)]
theorem r_addB {Y : Mem} {c : Nat → Nat} {k s w : Nat} {m : Bool} {p2 : Int32} (h : EY Y c) (hf : Y 0 10 = -1) (hn : c 1 < 10) : ∃ Y', md_comes_J69 (nI k) p2 (nI s) (nI w) (bI m) Y = some Y' ∧ EY Y' (addB c k s w (if m = true then 1 else 0)) ∧ (∀ r i, ¬ (r = 1 ∧ i < 248) → Y' r i = Y r i) := by
  have hb : bI m = nI (if m = true then 1 else 0) := by cases m <;> rfl
  have e1 : Y 1 1 = nI (c 1) := EY_n h (i := 1) (by omega) (by omega)
  have E1 := EY_up k h (j := 38 + 5 * c 1 + 0) (by omega) (by omega)
  have E2 := EY_up s E1 (j := 38 + 5 * c 1 + 1) (by omega) (by omega)
  have E3 := EY_up w E2 (j := 38 + 5 * c 1 + 2) (by omega) (by omega)
  have E4 := EY_up (if m = true then 1 else 0) E3 (j := 38 + 5 * c 1 + 3) (by omega) (by omega)
  have E5 := EY_up 0 E4 (j := 38 + 5 * c 1 + 4) (by omega) (by omega)
  have E6 := EY_up (c 1 + 1) E5 (j := 1) (by omega) (by omega)
  refine ⟨_, ?_, EY_c E6 fun i hi => ?_, fun r i q => by rw [wr_ne (by omega), wr_ne (by omega), wr_ne (by omega), wr_ne (by omega), wr_ne (by omega), wr_ne (by omega)]⟩
  · have f1 : ∀ j v, ¬ j = 1 → wr Y 1 j v 1 1 = nI (c 1) := fun j v hj => by rw [wr_ne (by omega), e1]
    have f2 : ∀ j v j2 v2, ¬ j = 1 → ¬ j2 = 1 → wr (wr Y 1 j v) 1 j2 v2 1 1 = nI (c 1) := fun j v j2 v2 hj h2 => by rw [wr_ne (by omega), f1 _ _ hj]
    have f3 : ∀ j v j2 v2 j3 v3, ¬ j = 1 → ¬ j2 = 1 → ¬ j3 = 1 → wr (wr (wr Y 1 j v) 1 j2 v2) 1 j3 v3 1 1 = nI (c 1) := fun j v j2 v2 j3 v3 hj h2 h3 => by rw [wr_ne (by omega), f2 _ _ _ _ hj h2]
    unfold md_comes_J69
    rw [hf, if_pos rfl, e1]
    simp (disch := omega) only [n_lit, n_mul, n_add, chk_in, n_cl, lt1_ap, f1, f2, f3]
    have g : ∀ M : Mem, M 1 1 = nI (c 1) → md_comes_J142 (nI k) p2 (nI (38 + 5 * c 1)) (bI m) (nI (38 + 5 * c 1 + 3)) M = some (wr (wr (wr M 1 (38 + 5 * c 1 + 3) (nI (if m = true then 1 else 0))) 1 (38 + 5 * c 1 + 4) (nI 0)) 1 1 (nI (c 1 + 1))) := fun M hM => by
      unfold md_comes_J142
      simp (disch := omega) only [n_lit, n_add, chk_in, n_cl, lt1_ap]
      rw [wr_ne (M := wr M 1 (38 + 5 * c 1 + 3) (bI m)) (by omega), wr_ne (by omega), hM, n_add, hb]
    cases m
    · rw [if_pos (show bI false = nI 0 from rfl)]
      exact g _ (f3 _ _ _ _ _ _ (by omega) (by omega) (by omega))
    · rw [if_neg (by decide)]
      exact g _ (f3 _ _ _ _ _ _ (by omega) (by omega) (by omega))
  · unfold addB up
    by_cases q : i = 1
    · rw [if_neg (by omega), if_neg (by omega), if_neg (by omega), if_neg (by omega), if_neg (by omega), if_pos q, if_pos q]
    · rw [if_neg q, if_neg q]
      by_cases q4 : i = 38 + 5 * c 1 + 4
      · rw [if_neg (by omega), if_neg (by omega), if_neg (by omega), if_neg (by omega), if_pos q4, if_pos q4]
      · rw [if_neg q4, if_neg q4]
        by_cases q3 : i = 38 + 5 * c 1 + 3
        · rw [if_neg (by omega), if_neg (by omega), if_neg (by omega), if_pos q3, if_pos q3]
        · rw [if_neg q3, if_neg q3]
          by_cases q2 : i = 38 + 5 * c 1 + 2
          · rw [if_neg (by omega), if_neg (by omega), if_pos q2, if_pos q2]
          · rw [if_neg q2, if_neg q2]
            by_cases q1 : i = 38 + 5 * c 1 + 1
            · rw [if_neg (by omega), if_pos q1, if_pos q1]
            · rw [if_neg q1, if_neg q1]
