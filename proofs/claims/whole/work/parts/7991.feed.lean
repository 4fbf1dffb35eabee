/-! feed -/
theorem s_u : ∀ n, n < 32 → (((nI n).toUInt32 &&& Int32.toUInt32 31).toBitVec % 32#32).toNat = n := by decide +kernel
theorem b_iushr {n : Nat} (hn : n < 32) (x : Int32) {i : Nat} (hi : i < 32) : bt (iushr x (nI n)) i = (decide (n + i < 32) && bt x (n + i)) := by
  have h1 : (iushr x (nI n)).toBitVec = x.toBitVec >>> n := by
    unfold iushr
    show (x.toUInt32 >>> ((nI n).toUInt32 &&& Int32.toUInt32 31)).toBitVec = _
    rw [UInt32.toBitVec_shiftRight]
    show x.toBitVec >>> ((((nI n).toUInt32 &&& Int32.toUInt32 31).toBitVec % 32#32)).toNat = _
    rw [s_u n hn]
  unfold bt
  rw [h1, BitVec.getLsbD_ushiftRight]
  by_cases q : n + i < 32
  · rw [decide_eq_true q, Bool.true_and]
  · rw [decide_eq_false q, Bool.false_and]
    exact BitVec.getLsbD_of_ge _ _ (by omega)
/-- the byte of a word at bit n -/
def by8 (x : Int32) (n : Nat) : Nat := x.toBitVec.toNat / 2 ^ n % 256
theorem by8_le {x : Int32} {n : Nat} : by8 x n ≤ 255 := by
  have : by8 x n < 256 := Nat.mod_lt _ (by decide)
  omega
theorem by8_tb {x : Int32} {n i : Nat} (hi : i < 32) : (by8 x n).testBit i = (decide (i < 8) && bt x (n + i)) := by
  unfold by8 bt
  rw [show 256 = 2 ^ 8 from rfl, Nat.testBit_mod_two_pow, Nat.testBit_div_two_pow, Nat.add_comm i n]
  rfl
theorem m255 : ∀ i, i < 32 → bt (nI 255) i = decide (i < 8) := by decide +kernel
theorem k_byte {x : Int32} {n : Nat} (hn : n ≤ 24) : (x >>> nI n) &&& nI 255 = nI (by8 x n) := b_ext fun i hi => by
  rw [b_and, b_sshr n (by omega) _ hi, m255 i hi, b_nI _ hi, by8_tb hi]
  by_cases q : i < 8
  · rw [decide_eq_true q, Bool.and_true, Bool.true_and, if_pos (by omega)]
  · rw [decide_eq_false q, Bool.and_false, Bool.false_and]
theorem r_byte {x : Int32} {n : Nat} (hn : n ≤ 24) : iushr x (nI n) &&& nI 255 = nI (by8 x n) := b_ext fun i hi => by
  rw [b_and, b_iushr (by omega) x hi, m255 i hi, b_nI _ hi, by8_tb hi]
  by_cases q : i < 8
  · rw [decide_eq_true q, Bool.and_true, Bool.true_and, decide_eq_true (by omega), Bool.true_and]
  · rw [decide_eq_false q, Bool.and_false, Bool.false_and]
