/-! numbers: a small int is nI of its number; a set is a number -/
theorem wr_eq {M : Mem} {r i : Nat} {v : Int32} : wr M r i v r i = v := if_pos ⟨rfl, rfl⟩
theorem wr_ne {M : Mem} {r i r' i' : Nat} {v : Int32} (h : ¬ (r' = r ∧ i' = i)) : wr M r i v r' i' = M r' i' := if_neg h
theorem wr_ap (M : Mem) (r i : Nat) (v : Int32) (r' i' : Nat) : wr M r i v r' i' = if r' = r ∧ i' = i then v else M r' i' := rfl
theorem n_lit (n : Nat) : (@OfNat.ofNat Int32 n _) = nI (@OfNat.ofNat Nat n _) := id rfl
theorem n_lt {a b : Nat} (ha : a < 2147483648) (hb : b < 2147483648) : (nI a < nI b) = (a < b) := propext (nI_ltI (by omega) (by omega))
theorem n_eq {a b : Nat} (ha : a < 4294967296) (hb : b < 4294967296) : (nI a = nI b) = (a = b) := propext ⟨fun e => by
  have h := congrArg (fun x : Int32 => x.toBitVec.toNat) e
  have h1 : (nI a).toBitVec.toNat = a := pk_tn (by omega)
  have h2 : (nI b).toBitVec.toNat = b := pk_tn (by omega)
  exact h1.symm.trans (h.trans h2), fun e => by rw [e]⟩
theorem n_add (a b : Nat) : nI a + nI b = nI (a + b) := nI_add a b
theorem n_sub {a b : Nat} (h : b ≤ a) : nI a - nI b = nI (a - b) := pk_sub h
theorem n_mul (a b : Nat) : nI a * nI b = nI (a * b) := pk_mul a b
theorem n_div {a d : Nat} (ha : a < 2147483648) (h0 : 0 < d) (hd : d < 2147483648) : nI a / nI d = nI (a / d) := pk_div (by omega) h0 (by omega)
theorem n_rem {a d : Nat} (ha : a < 2147483648) (h0 : 0 < d) (hd : d < 2147483648) : irem (nI a) (nI d) = nI (a % d) := pk_rem (by omega) h0 (by omega)
theorem n_cl {a : Nat} (h : a < 2147483648) : (nI a).toNatClampNeg = a := nI_clamp (by omega)
theorem n_toI {a : Nat} (h : a < 2147483648) : (nI a).toInt = (a : Int) := nI_toInt (by omega)
theorem n_in {a N : Nat} (h : a < 2147483648) : inb (nI a) N = decide (a < N) := by
  have h1 : ¬ nI a < 0 := nI_pos (by omega)
  unfold inb
  rw [n_cl h, decide_eq_true h1, Bool.true_and]
theorem chk_t {α : Type} {b : Bool} {o : Option α} (h : b = true) : chk b o = o := by rw [h]; rfl
theorem chk_in {α : Type} {a N : Nat} {o : Option α} (h : a < N) (hN : N < 2147483648) : chk (inb (nI a) N) o = o := by
  rw [n_in (by omega), decide_eq_true h]
  rfl
theorem n_nz {a : Nat} (h0 : 0 < a) (h : a < 2147483648) : (nI a == nI 0) = false := by
  rw [beq_eq_false_iff_ne]
  intro e
  rw [n_eq (by omega) (by omega)] at e
  omega
theorem chk_nz {α : Type} {a : Nat} {o : Option α} (h0 : 0 < a) (h : a < 2147483648) : chk (!(nI a == nI 0)) o = o := by
  rw [n_nz h0 h]
  rfl
theorem n_ng {a k : Nat} (h : a < 2147483648) (h0 : 0 < k) (hk : k < 2147483648) : (nI a = -nI k) = False := by
  refine eq_false fun e => ?_
  have h1 : (-nI k).toInt = -(k : Int) := by
    rw [Int32.toInt_neg, n_toI hk, Int.bmod_eq_of_le (by omega) (by omega)]
  have h2 := n_toI h
  rw [e, h1] at h2
  omega
theorem n_gn {a k : Nat} (h : a < 2147483648) (h0 : 0 < k) (hk : k < 2147483648) : (-nI k = nI a) = False := by
  refine eq_false fun e => ?_
  exact (n_ng h h0 hk).mp e.symm
theorem ng_toI {k : Nat} (hk : k < 2147483648) : (-nI k).toInt = -(k : Int) := by
  rw [Int32.toInt_neg, n_toI hk, Int.bmod_eq_of_le (by omega) (by omega)]
theorem n_ltng {a k : Nat} (h : a < 2147483648) (hk : k < 2147483648) : (nI a < -nI k) = False := by
  refine eq_false fun e => ?_
  rw [Int32.lt_iff_toInt_lt, n_toI h, ng_toI hk] at e
  omega
theorem n_nglt {a k : Nat} (h : a < 2147483648) (h0 : 0 < k) (hk : k < 2147483648) : (-nI k < nI a) = True := by
  refine eq_true ?_
  rw [Int32.lt_iff_toInt_lt, n_toI h, ng_toI hk]
  omega
theorem ng_eq {a k : Nat} (h : a < 2147483648) (hk : k < 2147483648) : (-nI a = -nI k) = (a = k) := by
  refine propext ⟨fun e => ?_, fun e => by rw [e]⟩
  have h1 := ng_toI h
  rw [e, ng_toI hk] at h1
  omega
theorem ng_lt {a k : Nat} (h : a < 2147483648) (hk : k < 2147483648) : (-nI a < -nI k) = (k < a) := by
  rw [Int32.lt_iff_toInt_lt, ng_toI h, ng_toI hk]
  exact propext ⟨fun e => by omega, fun e => by omega⟩
theorem n_of (x : Int32) : ∃ n, n < 4294967296 ∧ x = nI n := ⟨x.toBitVec.toNat, x.toBitVec.isLt, Int32.toBitVec_inj.mp (by
  show x.toBitVec = BitVec.ofNat 32 x.toBitVec.toNat
  rw [BitVec.ofNat_toNat, BitVec.setWidth_eq])⟩
/-- truths as ints -/
def bI (b : Bool) : Int32 := if b then 1 else 0
theorem bI_0 (b : Bool) : (bI b = nI 0) = (b = false) := by cases b <;> decide
theorem bI_1 (b : Bool) : (bI b = nI 1) = (b = true) := by cases b <;> decide
theorem bI_B (b : Bool) : isB (bI b) = true := by cases b <;> rfl
theorem bI_t : bI true = nI 1 := rfl
theorem bI_f : bI false = nI 0 := rfl
theorem chk_bI {α : Type} {b : Bool} {o : Option α} : chk (isB (bI b)) o = o := by rw [bI_B]; rfl
/-! bits -/
def bt (x : Int32) (i : Nat) : Bool := x.toBitVec.getLsbD i
theorem b_ext {x y : Int32} (h : ∀ i, i < 32 → bt x i = bt y i) : x = y := Int32.toBitVec_inj.mp (BitVec.eq_of_getLsbD_eq (fun i hi => h i hi))
theorem b_or (x y : Int32) (i : Nat) : bt (x ||| y) i = (bt x i || bt y i) := by unfold bt; rw [Int32.toBitVec_or, BitVec.getLsbD_or]
theorem b_and (x y : Int32) (i : Nat) : bt (x &&& y) i = (bt x i && bt y i) := by unfold bt; rw [Int32.toBitVec_and, BitVec.getLsbD_and]
theorem b_xor (x y : Int32) (i : Nat) : bt (x ^^^ y) i = (bt x i ^^ bt y i) := by unfold bt; rw [Int32.toBitVec_xor, BitVec.getLsbD_xor]
theorem b_m1 : ∀ i, i < 32 → bt (-nI 1) i = true := by decide +kernel
theorem b_nI (a : Nat) {i : Nat} (h : i < 32) : bt (nI a) i = a.testBit i := by
  show (BitVec.ofNat 32 a).getLsbD i = _
  rw [BitVec.getLsbD_ofNat, decide_eq_true h, Bool.true_and]
theorem s_l : ∀ n, n < 32 → ((nI n).toBitVec.smod 32).toNat = n := by decide +kernel
theorem b_sshr (n : Nat) (hn : n < 32) (x : Int32) {i : Nat} (hi : i < 32) : bt (x >>> nI n) i = if n + i < 32 then bt x (n + i) else bt x 31 := by
  unfold bt
  rw [Int32.toBitVec_shiftRight]
  show (x.toBitVec.sshiftRight ((nI n).toBitVec.smod 32).toNat).getLsbD i = _
  rw [s_l n hn, BitVec.getLsbD_sshiftRight, BitVec.msb_eq_getLsbD_last]
  simp [hi]
theorem n_and (a b : Nat) : nI a &&& nI b = nI (a &&& b) := b_ext fun i hi => by rw [b_and, b_nI _ hi, b_nI _ hi, b_nI _ hi, Nat.testBit_and]
theorem n_or (a b : Nat) : nI a ||| nI b = nI (a ||| b) := b_ext fun i hi => by rw [b_or, b_nI _ hi, b_nI _ hi, b_nI _ hi, Nat.testBit_or]
theorem n_xor (a b : Nat) : nI a ^^^ nI b = nI (a ^^^ b) := b_ext fun i hi => by rw [b_xor, b_nI _ hi, b_nI _ hi, b_nI _ hi, Nat.testBit_xor]
/-- a without b -/
def sd (a b : Nat) : Nat := a ^^^ (a &&& b)
theorem sd_tb (a b i : Nat) : (sd a b).testBit i = (a.testBit i && !b.testBit i) := by
  unfold sd
  rw [Nat.testBit_xor, Nat.testBit_and]
  cases a.testBit i <;> cases b.testBit i <;> rfl
theorem n_sd (a b : Nat) : nI a &&& (nI b ^^^ -nI 1) = nI (sd a b) := b_ext fun i hi => by
  rw [b_and, b_xor, b_m1 i hi, b_nI _ hi, b_nI _ hi, b_nI _ hi, sd_tb, Bool.xor_true]
theorem n_sd2 (a b : Nat) : (nI b ^^^ -nI 1) &&& nI a = nI (sd a b) := by rw [Int32.and_comm, n_sd]
theorem m31 {k : Nat} (h : k < 32) : k &&& 31 = k := by
  have := Nat.and_two_pow_sub_one_eq_mod k 5
  rw [show 2 ^ 5 - 1 = 31 from rfl] at this
  rw [this]
  exact Nat.mod_eq_of_lt (by omega)
theorem n_m31 {k : Nat} (h : k < 32) : nI k &&& nI 31 = nI k := by rw [n_and, m31 h]
theorem n_shl {k : Nat} (a : Nat) (hk : k < 32) (h : a * 2 ^ k < 4294967296) : nI a <<< nI k = nI (a * 2 ^ k) := pk_shlN (nI k) k (s_l k hk) (by omega)
theorem n_shl1 {k : Nat} (hk : k < 32) : nI 1 <<< nI k = nI (2 ^ k) := by
  have h : 2 ^ k < 2 ^ 32 := Nat.pow_lt_pow_right (by decide) hk
  rw [n_shl 1 hk (by omega), Nat.one_mul]
theorem n_shr {a k : Nat} (ha : a < 2147483648) (hk : k < 32) : nI a >>> nI k = nI (a / 2 ^ k) := pk_shrN (by omega) (nI k) k (s_l k hk)
def tb (a k : Nat) : Nat := if a.testBit k then 1 else 0
theorem n_bit {a k : Nat} (hk : k < 32) : (nI a >>> nI k) &&& nI 1 = nI (tb a k) := b_ext fun i hi => by
  have h1 : ∀ i, i < 32 → bt (nI 1) i = decide (i = 0) := by decide +kernel
  have h2 : ∀ i, i < 32 → bt (nI 0) i = false := by decide +kernel
  rw [b_and, b_sshr k hk _ hi, h1 i hi]
  by_cases h : i = 0
  · rw [h, decide_eq_true rfl, Bool.and_true, if_pos (by omega), Nat.add_zero, b_nI _ hk]
    unfold tb
    cases a.testBit k
    · rw [if_neg (by decide), h2 0 (by decide)]
    · rw [if_pos rfl, h1 0 (by decide)]
      rfl
  · rw [decide_eq_false h, Bool.and_false]
    unfold tb
    cases a.testBit k
    · rw [if_neg (by decide), h2 i hi]
    · rw [if_pos rfl, h1 i hi, decide_eq_false h]
theorem tb_lt (a k : Nat) : tb a k < 2 := by unfold tb; cases a.testBit k <;> decide
theorem tb_0 (a k : Nat) : (tb a k = 0) = (a.testBit k = false) := by unfold tb; cases a.testBit k <;> decide
theorem tb_1 (a k : Nat) : (tb a k = 1) = (a.testBit k = true) := by unfold tb; cases a.testBit k <;> decide
theorem tbI_0 (a k : Nat) : (nI (tb a k) = nI 0) = (a.testBit k = false) := by unfold tb; cases a.testBit k <;> decide
theorem tbI_1 (a k : Nat) : (nI (tb a k) = nI 1) = (a.testBit k = true) := by unfold tb; cases a.testBit k <;> decide
theorem tb_nI (a k : Nat) : nI (tb a k) = bI (a.testBit k) := by unfold tb; cases a.testBit k <;> rfl
theorem tb_big {a n k : Nat} (h : a < 2 ^ n) (hk : n ≤ k) : a.testBit k = false := Nat.testBit_lt_two_pow (Nat.lt_of_lt_of_le h (Nat.pow_le_pow_right (by decide) hk))
theorem n_ext {a b n : Nat} (ha : a < 2 ^ n) (hb : b < 2 ^ n) (h : ∀ i, i < n → a.testBit i = b.testBit i) : a = b := Nat.eq_of_testBit_eq fun i => by
  rcases Nat.lt_or_ge i n with q | q
  · exact h i q
  · rw [tb_big ha q, tb_big hb q]
theorem lt_of_tb {a n : Nat} (h : ∀ i, n ≤ i → a.testBit i = false) : a < 2 ^ n := by
  refine Classical.byContradiction fun q => ?_
  obtain ⟨i, hi, h2⟩ := Nat.exists_ge_and_testBit_of_ge_two_pow (Nat.le_of_not_lt q)
  rw [h i hi] at h2
  exact Bool.noConfusion h2
theorem sd_lt {a n : Nat} (b : Nat) (h : a < 2 ^ n) : sd a b < 2 ^ n := lt_of_tb fun i hi => by rw [sd_tb, tb_big h hi, Bool.false_and]
theorem and_lt {a n : Nat} (b : Nat) (h : a < 2 ^ n) : b &&& a < 2 ^ n := lt_of_tb fun i hi => by rw [Nat.testBit_and, tb_big h hi, Bool.and_false]
theorem or_lt {a b n : Nat} (h : a < 2 ^ n) (h2 : b < 2 ^ n) : a ||| b < 2 ^ n := lt_of_tb fun i hi => by rw [Nat.testBit_or, tb_big h hi, tb_big h2 hi, Bool.false_or]
theorem xor_lt {a b n : Nat} (h : a < 2 ^ n) (h2 : b < 2 ^ n) : a ^^^ b < 2 ^ n := lt_of_tb fun i hi => by rw [Nat.testBit_xor, tb_big h hi, tb_big h2 hi]; rfl
theorem sd_0 {a b : Nat} : sd a b = 0 ↔ ∀ i, a.testBit i = true → b.testBit i = true := by
  constructor
  · intro h i hi
    have h1 := sd_tb a b i
    rw [h, Nat.zero_testBit, hi, Bool.true_and] at h1
    cases h2 : b.testBit i
    · rw [h2] at h1; exact Bool.noConfusion h1
    · rfl
  · intro h
    refine Nat.eq_of_testBit_eq fun i => ?_
    rw [sd_tb, Nat.zero_testBit]
    cases h1 : a.testBit i
    · rfl
    · rw [h i h1]; rfl
theorem pw_lt {k n : Nat} (h : k < n) : 2 ^ k < 2 ^ n := Nat.pow_lt_pow_right (by decide) h
theorem pw_le {k n : Nat} (h : k ≤ n) : 2 ^ k ≤ 2 ^ n := Nat.pow_le_pow_right (by decide) h
theorem pw_10 {k : Nat} (h : k ≤ 10) : 2 ^ k ≤ 1024 := pw_le h
theorem pw_pos (k : Nat) : 0 < 2 ^ k := Nat.two_pow_pos k
theorem al_tb (n i : Nat) : (2 ^ n - 1).testBit i = decide (i < n) := Nat.testBit_two_pow_sub_one n i
/-- the set of those below n that have p -/
def mk (p : Nat → Bool) : Nat → Nat
  | 0 => 0
  | k + 1 => mk p k + if p k then 2 ^ k else 0
theorem mk_lt (p : Nat → Bool) : ∀ n, mk p n < 2 ^ n
  | 0 => Nat.one_pos
  | n + 1 => by
    have := mk_lt p n
    have e : 2 ^ (n + 1) = 2 ^ n + 2 ^ n := by rw [Nat.pow_succ]; omega
    unfold mk
    split <;> omega
theorem tb_addpow {a n i : Nat} (h : a < 2 ^ n) : (a + 2 ^ n).testBit i = (a.testBit i || decide (i = n)) := by
  rw [Nat.add_comm, show 2 ^ n + a = 2 ^ n ||| a by
    have := Nat.two_pow_add_eq_or_of_lt h 1
    rw [Nat.mul_one] at this
    exact this, Nat.testBit_or, Nat.testBit_two_pow, Bool.or_comm]
  congr 1
  exact decide_eq_decide.mpr ⟨fun e => e.symm, fun e => e.symm⟩
theorem mk_tb (p : Nat → Bool) (i : Nat) : ∀ n, (mk p n).testBit i = (decide (i < n) && p i)
  | 0 => by
    unfold mk
    rw [Nat.zero_testBit]
    simp
  | n + 1 => by
    have ih := mk_tb p i n
    unfold mk
    by_cases h : p n
    · rw [if_pos h, tb_addpow (mk_lt p n), ih]
      by_cases q : i = n
      · subst q; simp [h]
      · rw [decide_eq_false q, Bool.or_false]
        congr 1
        exact decide_eq_decide.mpr (by omega)
    · rw [if_neg h, Nat.add_zero, ih]
      by_cases q : i = n
      · subst q; simp [h]
      · congr 1
        exact decide_eq_decide.mpr (by omega)
/-- a sum over a set -/
def sB (f : Nat → Nat) (s : Nat) : Nat → Nat
  | 0 => 0
  | k + 1 => sB f s k + if s.testBit k then f k else 0
theorem sB_cong {f g : Nat → Nat} {s t : Nat} : ∀ {n : Nat}, (∀ k, k < n → (if s.testBit k then f k else 0) = if t.testBit k then g k else 0) → sB f s n = sB g t n
  | 0, _ => rfl
  | n + 1, h => by
    unfold sB
    rw [sB_cong (fun k hk => h k (by omega)), h n (by omega)]
theorem sB_le {f : Nat → Nat} {s B : Nat} : ∀ {n : Nat}, (∀ k, k < n → f k ≤ B) → sB f s n ≤ n * B
  | 0, _ => Nat.zero_le _
  | n + 1, h => by
    have h1 := sB_le (f := f) (s := s) (B := B) (n := n) (fun k hk => h k (by omega))
    have h2 := h n (by omega)
    have e : (n + 1) * B = n * B + B := Nat.succ_mul n B
    unfold sB
    split <;> omega
/-- the union of sets over a set -/
def oB (f : Nat → Nat) (s : Nat) : Nat → Nat
  | 0 => 0
  | k + 1 => if s.testBit k then oB f s k ||| f k else oB f s k
theorem oB_cong {f g : Nat → Nat} {s t : Nat} : ∀ {n : Nat}, (∀ k, k < n → s.testBit k = t.testBit k ∧ f k = g k) → oB f s n = oB g t n
  | 0, _ => rfl
  | n + 1, h => by
    unfold oB
    rw [oB_cong (fun k hk => h k (by omega)), (h n (by omega)).1, (h n (by omega)).2]
theorem oB_tb {f : Nat → Nat} {s i : Nat} : ∀ {n : Nat}, (oB f s n).testBit i = true ↔ ∃ k, k < n ∧ s.testBit k = true ∧ (f k).testBit i = true
  | 0 => by
    unfold oB
    rw [Nat.zero_testBit]
    exact ⟨fun h => Bool.noConfusion h, fun ⟨k, hk, _⟩ => absurd hk (Nat.not_lt_zero k)⟩
  | n + 1 => by
    have ih := oB_tb (f := f) (s := s) (i := i) (n := n)
    unfold oB
    by_cases h : s.testBit n = true
    · rw [if_pos h, Nat.testBit_or, Bool.or_eq_true, ih]
      constructor
      · rintro (⟨k, h1, h2⟩ | h1)
        · exact ⟨k, by omega, h2⟩
        · exact ⟨n, by omega, h, h1⟩
      · rintro ⟨k, h1, h2, h3⟩
        rcases Nat.lt_or_ge k n with q | q
        · exact Or.inl ⟨k, q, h2, h3⟩
        · exact Or.inr ((show k = n by omega) ▸ h3)
    · rw [if_neg h, ih]
      constructor
      · rintro ⟨k, h1, h2⟩
        exact ⟨k, by omega, h2⟩
      · rintro ⟨k, h1, h2, h3⟩
        rcases Nat.lt_or_ge k n with q | q
        · exact ⟨k, q, h2, h3⟩
        · exact absurd ((show k = n by omega) ▸ h2) h
theorem oB_lt {f : Nat → Nat} {s m : Nat} : ∀ {n : Nat}, (∀ k, k < n → f k < 2 ^ m) → oB f s n < 2 ^ m
  | 0, _ => Nat.two_pow_pos m
  | n + 1, h => by
    have h1 := oB_lt (f := f) (s := s) (m := m) (n := n) (fun k hk => h k (by omega))
    unfold oB
    split
    · exact or_lt h1 (h n (by omega))
    · exact h1
/-- all from k on, m of them -/
def allF (p : Nat → Bool) (k : Nat) : Nat → Bool
  | 0 => true
  | m + 1 => p k && allF p (k + 1) m
theorem allF_iff {p : Nat → Bool} : ∀ {m k : Nat}, allF p k m = true ↔ ∀ j, k ≤ j → j < k + m → p j = true
  | 0, k => ⟨fun _ j h1 h2 => absurd h2 (by omega), fun _ => rfl⟩
  | m + 1, k => by
    unfold allF
    rw [Bool.and_eq_true, allF_iff]
    constructor
    · rintro ⟨h1, h2⟩ j h3 h4
      rcases Nat.eq_or_lt_of_le h3 with q | q
      · exact q ▸ h1
      · exact h2 j q (by omega)
    · exact fun h => ⟨h k (Nat.le_refl k) (by omega), fun j h1 h2 => h j (by omega) (by omega)⟩
theorem allF_cong {p q : Nat → Bool} : ∀ {m k : Nat}, (∀ j, k ≤ j → j < k + m → p j = q j) → allF p k m = allF q k m
  | 0, _, _ => rfl
  | m + 1, k, h => by
    unfold allF
    rw [h k (Nat.le_refl k) (by omega), allF_cong (m := m) (fun j h1 h2 => h j (by omega) (by omega))]
theorem n_sneg {a b : Nat} (hb : b < 1073741824) (h : a < b) : nI a - nI b < nI 0 := pk_sneg (by omega) h
theorem nI_nm {a : Nat} (h : a < 2147483648) : ¬ nI a = -1 := fun e => (n_ng h (by decide) (by decide) : (nI a = -nI 1) = False).mp e
theorem ifb_t {α : Type} {A B : α} {b : Bool} (h : b = true) : (if bI b = (0 : Int32) then A else B) = B := by subst h; rfl
theorem ifb_f {α : Type} {A B : α} {b : Bool} (h : b = false) : (if bI b = (0 : Int32) then A else B) = A := by subst h; rfl
theorem lt1_ap {β γ : Type} (e : β) (f : β → Option γ) : lt1 e f = f e := id rfl
theorem bind_s {α β : Type} (a : α) (f : α → Option β) : (some a).bind f = f a := id rfl
theorem FUe : FU = 1000000 := rfl
