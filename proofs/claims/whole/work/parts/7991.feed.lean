/-! feed -/
theorem s_u : ∀ n, n < 32 → (((nI n).toUInt32 &&& Int32.toUInt32 31).toBitVec % 32#32).toNat = n := by decide +kernel
theorem b_iushr {n : Nat} (hn : n < 32) (x : Int32) {i : Nat} (hi : i < 32) : bt (iushr x (nI n)) i = (decide (n + i < 32) && bt x (n + i)) := by
  have h1 : (iushr x (nI n)).toBitVec = x.toBitVec >>> n := by
    unfold iushr
    show (x.toUInt32 >>> ((nI n).toUInt32 &&& Int32.toUInt32 31)).toBitVec = _
    rw [UInt32.toBitVec_shiftRight]
    show x.toBitVec >>> ((((nI n).toUInt32 &&& Int32.toUInt32 31).toBitVec % 32#32)).toNat = _
    rw [s_u n hn]
  unfold bt
  rw [h1, BitVec.getLsbD_ushiftRight]
  by_cases q : n + i < 32
  · rw [decide_eq_true q, Bool.true_and]
  · rw [decide_eq_false q, Bool.false_and]
    exact BitVec.getLsbD_of_ge _ _ (by omega)
/-- the byte of a word at bit n -/
def by8 (x : Int32) (n : Nat) : Nat := x.toBitVec.toNat / 2 ^ n % 256
theorem by8_le {x : Int32} {n : Nat} : by8 x n ≤ 255 := by
  have : by8 x n < 256 := Nat.mod_lt _ (by decide)
  omega
theorem by8_tb {x : Int32} {n i : Nat} (hi : i < 32) : (by8 x n).testBit i = (decide (i < 8) && bt x (n + i)) := by
  unfold by8 bt
  rw [show 256 = 2 ^ 8 from rfl, Nat.testBit_mod_two_pow, Nat.testBit_div_two_pow, Nat.add_comm i n]
  rfl
theorem m255 : ∀ i, i < 32 → bt (nI 255) i = decide (i < 8) := by decide +kernel
theorem k_byte {x : Int32} {n : Nat} (hn : n ≤ 24) : (x >>> nI n) &&& nI 255 = nI (by8 x n) := b_ext fun i hi => by
  rw [b_and, b_sshr n (by omega) _ hi, m255 i hi, b_nI _ hi, by8_tb hi]
  by_cases q : i < 8
  · rw [decide_eq_true q, Bool.and_true, Bool.true_and, if_pos (by omega)]
  · rw [decide_eq_false q, Bool.and_false, Bool.false_and]
theorem r_byte {x : Int32} {n : Nat} (hn : n ≤ 24) : iushr x (nI n) &&& nI 255 = nI (by8 x n) := b_ext fun i hi => by
  rw [b_and, b_iushr (by omega) x hi, m255 i hi, b_nI _ hi, by8_tb hi]
  by_cases q : i < 8
  · rw [decide_eq_true q, Bool.and_true, Bool.true_and, decide_eq_true (by omega), Bool.true_and]
  · rw [decide_eq_false q, Bool.and_false, Bool.false_and]
theorem ka_st {p : Int32} {K : Mem → Option Mem} {x y n : Nat} {fu : Nat} {M : Mem} (h1 : M 1 1 = nI n) (hn : n < 400) (hx : x ≤ 24) : tp_append_L3 p K (fu + 1) (nI x) M = tp_append_L3 p K fu (nI x + -8) (wr (wr M 2 n (nI (by8 p x))) 1 1 (nI (n + 1))) := by
  rw [tp_append_L3, h1]
  simp (disch := omega) only [n_lit, n_lt, if_pos, chk_in, n_cl, lt1_ap, n_m31, k_byte]
  rw [if_neg (by omega), wr_ne (by omega), h1, n_add]
theorem k_append {p : Int32} {n : Nat} {M : Mem} (h1 : M 1 1 = nI n) (hn : n + 4 ≤ 400) : ∃ M', tp_append p M = some M' ∧ M' 1 1 = nI (n + 4) ∧ (∀ j, j < 4 → M' 2 (n + j) = nI (by8 p (24 - 8 * j))) ∧ (∀ r i, ¬ (r = 1 ∧ i = 1) → ¬ (r = 2 ∧ n ≤ i ∧ i < n + 4) → M' r i = M r i) := by
  have st : tp_append p M = some (wr (wr (wr (wr (wr (wr (wr (wr M 2 n (nI (by8 p 24))) 1 1 (nI (n + 1))) 2 (n + 1) (nI (by8 p 16))) 1 1 (nI (n + 1 + 1))) 2 (n + 1 + 1) (nI (by8 p 8))) 1 1 (nI (n + 1 + 1 + 1))) 2 (n + 1 + 1 + 1) (nI (by8 p 0))) 1 1 (nI (n + 1 + 1 + 1 + 1))) := by
    unfold tp_append
    rw [show FU = 999995 + 1 + 1 + 1 + 1 + 1 from rfl, show (24 : Int32) = nI 24 from rfl, ka_st (y := 0) h1 (by omega) (by omega), show nI 24 + -8 = nI 16 from rfl, ka_st (y := 0) wr_eq (by omega) (by omega), show nI 16 + -8 = nI 8 from rfl, ka_st (y := 0) wr_eq (by omega) (by omega), show nI 8 + -8 = nI 0 from rfl, ka_st (y := 0) wr_eq (by omega) (by omega), tp_append_L3, if_pos (by decide)]
  refine ⟨_, st, wr_eq, fun j hj => ?_, fun r i a d => by rw [wr_ne (by omega), wr_ne (by omega), wr_ne (by omega), wr_ne (by omega), wr_ne (by omega), wr_ne (by omega), wr_ne (by omega), wr_ne (by omega)]⟩
  have : j = 0 ∨ j = 1 ∨ j = 2 ∨ j = 3 := by omega
  rcases this with rfl | rfl | rfl | rfl
  · rw [wr_ne (by omega), wr_ne (by omega), wr_ne (by omega), wr_ne (by omega), wr_ne (by omega), wr_ne (by omega), wr_ne (by omega)]
    exact wr_eq
  · rw [wr_ne (by omega), wr_ne (by omega), wr_ne (by omega), wr_ne (by omega), wr_ne (by omega)]
    exact wr_eq
  · rw [wr_ne (by omega), wr_ne (by omega), wr_ne (by omega)]
    exact wr_eq
  · rw [wr_ne (by omega)]
    exact wr_eq
def fdW (p1 p2 p3 p4 p5 : Int32) (k : Nat) : Int32 := if k < 4 then p1 else if k < 8 then p2 else if k < 12 then p3 else if k < 16 then p4 else p5
def fdB (p1 p2 p3 p4 p5 : Int32) (k : Nat) : Nat := by8 (fdW p1 p2 p3 p4 p5 k) (24 - 8 * (k % 4))
theorem rfd_J {p1 p2 p3 p4 p5 s : Int32} {rec : Int32 → Mem → Option (Int32 × Mem)} {K : Mem → Option (Int32 × Mem)} {k n : Nat} {M : Mem} (h6 : M 0 6 = nI n) (hn : n < 400) (hk : k < 20) : md_feed_J76 p1 p2 p3 p4 p5 rec K (nI k) s M = rec (nI (k + 1)) (wr (wr M 4 n (nI (by8 s (24 - 8 * (k % 4))))) 0 6 (nI (n + 1))) := by
  unfold md_feed_J76
  rw [h6]
  simp (disch := omega) only [n_lit, chk_in, n_cl, lt1_ap, n_rem, n_mul, n_sub, r_byte, n_add]
  rw [wr_ne (by omega), h6, n_add]
theorem rfd_L {p1 p2 p3 p4 p5 : Int32} {n : Nat} (hn : n + 20 ≤ 400) {K : Mem → Option (Int32 × Mem)} : ∀ m k fu (M : Mem), k + m = 20 → m < fu → M 0 6 = nI (n + k) → ∃ M', md_feed_L23 p1 p2 p3 p4 p5 K fu (nI k) M = K M' ∧ M' 0 6 = nI (n + 20) ∧ (∀ j, k ≤ j → j < 20 → M' 4 (n + j) = nI (fdB p1 p2 p3 p4 p5 j)) ∧ (∀ r i, ¬ (r = 0 ∧ i = 6) → ¬ (r = 4 ∧ n + k ≤ i ∧ i < n + 20) → M' r i = M r i)
  | 0, k, 0, M, _, hf, _ => absurd hf (by omega)
  | 0, k, fu + 1, M, hk, _, h6 => by
    refine ⟨M, ?_, by rw [h6, show k = 20 by omega], fun i a d => by omega, fun r i _ _ => rfl⟩
    rw [md_feed_L23]
    simp (disch := omega) only [n_lit, n_lt, if_neg]
  | m + 1, k, 0, M, _, hf, _ => absurd hf (by omega)
  | m + 1, k, fu + 1, M, hk, hf, h6 => by
    obtain ⟨M', e1, e2, e3, e4⟩ := rfd_L hn (p1 := p1) (p2 := p2) (p3 := p3) (p4 := p4) (p5 := p5) (K := K) m (k + 1) fu (wr (wr M 4 (n + k) (nI (fdB p1 p2 p3 p4 p5 k))) 0 6 (nI (n + k + 1))) (by omega) (by omega) wr_eq
    refine ⟨M', ?_, e2, fun i a d => ?_, fun r i a d => by rw [e4 r i a (by omega), wr_ne (by omega), wr_ne (by omega)]⟩
    · rw [md_feed_L23, if_pos (show nI k < 20 by rw [show (20 : Int32) = nI 20 from rfl, n_lt (by omega) (by omega)]; omega), rfd_J h6 (by omega) (by omega), rfd_J h6 (by omega) (by omega), rfd_J h6 (by omega) (by omega), rfd_J h6 (by omega) (by omega), rfd_J h6 (by omega) (by omega)]
      unfold fdB fdW at e1
      simp (disch := omega) only [n_lit, n_lt]
      split
      · rw [if_pos (by assumption)] at e1
        exact e1
      · rw [if_neg (by assumption)] at e1
        split
        · rw [if_pos (by assumption)] at e1
          exact e1
        · rw [if_neg (by assumption)] at e1
          split
          · rw [if_pos (by assumption)] at e1
            exact e1
          · rw [if_neg (by assumption)] at e1
            split
            · rw [if_pos (by assumption)] at e1
              exact e1
            · rw [if_neg (by assumption)] at e1
              exact e1
    · by_cases q : i = k
      · rw [q, e4 _ _ (by omega) (by omega), wr_ne (by omega), wr_eq]
      · exact e3 i (by omega) d
theorem m_feed {X Y : Mem} {n : Nat} {b : Nat → Nat} (h : TPE X Y n b) (p1 p2 p3 p4 p5 : Int32) : ∃ v X' Y' k b', rf_feed p1 p2 p3 p4 p5 X = some (v, X') ∧ md_feed p1 p2 p3 p4 p5 Y = some (v, Y') ∧ TPE X' Y' k b' ∧ (∀ r i, ¬ (r = 1 ∧ i = 1) → ¬ r = 2 → X' r i = X r i) ∧ (∀ r i, ¬ (r = 0 ∧ (i = 0 ∨ i = 6)) → ¬ r = 4 → Y' r i = Y r i) := by
  obtain ⟨h1, h2, h3, h4⟩ := h
  have e6 : wr Y 0 0 0 0 6 = nI n := by rw [wr_ne (by decide), h3]
  unfold rf_feed md_feed
  rw [lt1_ap, e6, h2]
  by_cases q : n + 20 ≤ 400
  · have hc : ¬ (400 : Int32) < nI n + 20 := by
      rw [show (20 : Int32) = nI 20 from rfl, show (400 : Int32) = nI 400 from rfl, n_add, n_lt (by omega) (by omega)]
      omega
    rw [if_neg hc, if_neg hc]
    obtain ⟨X1, a1, a2, a3, a4⟩ := k_append (p := p1) h2 (by omega)
    obtain ⟨X2, b1, b2, b3, b4⟩ := k_append (p := p2) a2 (by omega)
    obtain ⟨X3, c1, c2, c3, c4⟩ := k_append (p := p3) b2 (by omega)
    obtain ⟨X4, d1, d2, d3, d4⟩ := k_append (p := p4) c2 (by omega)
    obtain ⟨X5, f1, f2, f3, f4⟩ := k_append (p := p5) d2 (by omega)
    obtain ⟨Y1, g1, g2, g3, g4⟩ := rfd_L q (p1 := p1) (p2 := p2) (p3 := p3) (p4 := p4) (p5 := p5) (K := fun M5 => some ((M5 0 6), M5)) 20 0 FU (wr Y 0 0 0) rfl (by rw [FUe]; omega) e6
    rw [a1, bind_s, b1, bind_s, c1, bind_s, d1, bind_s, f1, bind_s, f2]
    rw [g2] at g1
    refine ⟨nI (n + 20), X5, Y1, n + 20, fun i => if i < n then b i else fdB p1 p2 p3 p4 p5 (i - n), by rw [show n + 4 + 4 + 4 + 4 + 4 = n + 20 by omega], g1, ⟨q, f2, g2, fun i hi => ?_⟩, fun r i a d => by rw [f4 _ _ a (by omega), d4 _ _ a (by omega), c4 _ _ a (by omega), b4 _ _ a (by omega), a4 _ _ a (by omega)], fun r i a d => by rw [g4 _ _ (by omega) (by omega), wr_ne (by omega)]⟩
    dsimp only
    by_cases q2 : i < n
    · rw [if_pos q2, f4 _ _ (by omega) (by omega), d4 _ _ (by omega) (by omega), c4 _ _ (by omega) (by omega), b4 _ _ (by omega) (by omega), a4 _ _ (by omega) (by omega), g4 _ _ (by omega) (by omega), wr_ne (by omega)]
      exact h4 i q2
    · rw [if_neg q2]
      obtain ⟨j, rfl⟩ : ∃ j, i = n + j := ⟨i - n, by omega⟩
      rw [show n + j - n = j by omega]
      refine ⟨?_, g3 j (by omega) (by omega), by8_le⟩
      unfold fdB fdW
      by_cases q3 : j < 4
      · rw [if_pos q3, f4 _ _ (by omega) (by omega), d4 _ _ (by omega) (by omega), c4 _ _ (by omega) (by omega), b4 _ _ (by omega) (by omega), a3 j q3, Nat.mod_eq_of_lt q3]
      · rw [if_neg q3]
        by_cases q4 : j < 8
        · have := b3 (j - 4) (by omega)
          rw [show n + 4 + (j - 4) = n + j by omega] at this
          rw [if_pos q4, f4 _ _ (by omega) (by omega), d4 _ _ (by omega) (by omega), c4 _ _ (by omega) (by omega), this, show j % 4 = j - 4 by omega]
        · rw [if_neg q4]
          by_cases q5 : j < 12
          · have := c3 (j - 8) (by omega)
            rw [show n + 4 + 4 + (j - 8) = n + j by omega] at this
            rw [if_pos q5, f4 _ _ (by omega) (by omega), d4 _ _ (by omega) (by omega), this, show j % 4 = j - 8 by omega]
          · rw [if_neg q5]
            by_cases q6 : j < 16
            · have := d3 (j - 12) (by omega)
              rw [show n + 4 + 4 + 4 + (j - 12) = n + j by omega] at this
              rw [if_pos q6, f4 _ _ (by omega) (by omega), this, show j % 4 = j - 12 by omega]
            · have := f3 (j - 16) (by omega)
              rw [show n + 4 + 4 + 4 + 4 + (j - 16) = n + j by omega] at this
              rw [if_neg q6, this, show j % 4 = j - 16 by omega]
  · have hc : (400 : Int32) < nI n + 20 := by
      rw [show (20 : Int32) = nI 20 from rfl, show (400 : Int32) = nI 400 from rfl, n_add, n_lt (by omega) (by omega)]
      omega
    rw [if_pos hc, if_pos hc]
    exact ⟨-1, X, _, n, b, rfl, rfl, ⟨h1, h2, e6, fun i hi => ⟨(h4 i hi).1, by rw [wr_ne (by omega)]; exact (h4 i hi).2.1, (h4 i hi).2.2⟩⟩, fun _ _ _ _ => rfl, fun r i a d => wr_ne (by omega)⟩
