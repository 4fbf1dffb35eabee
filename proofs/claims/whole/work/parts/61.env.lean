/-! what is told and where all are, as numbers; the two memories hold it -/
def cI (c : Nat → Nat) (i : Nat) : Int32 := if i = 8 ∨ (88 ≤ i ∧ i < 124 ∧ i % 3 = 0) then nI (c i) - nI 1 else nI (c i)
/-- the reference's cells -/
def EY (Y : Mem) (c : Nat → Nat) : Prop := ∀ i, i < 648 → Y 1 i = cI c i
theorem EY_n {Y : Mem} {c : Nat → Nat} (h : EY Y c) {i : Nat} (h1 : i < 648) (h2 : ¬ (i = 8 ∨ (88 ≤ i ∧ i < 124 ∧ i % 3 = 0))) : Y 1 i = nI (c i) := by
  rw [h i h1]
  exact if_neg h2
theorem EY_d {Y : Mem} {c : Nat → Nat} (h : EY Y c) {i : Nat} (h2 : i = 8 ∨ (88 ≤ i ∧ i < 124 ∧ i % 3 = 0)) : Y 1 i = nI (c i) - nI 1 := by
  rw [h i (by omega)]
  exact if_pos h2
abbrev kd (c : Nat → Nat) (b : Nat) : Nat := c (38 + 5 * b + 0)
abbrev st (c : Nat → Nat) (b : Nat) : Nat := c (38 + 5 * b + 1)
abbrev wt (c : Nat → Nat) (b : Nat) : Nat := c (38 + 5 * b + 2)
abbrev sm (c : Nat → Nat) (b : Nat) : Nat := c (38 + 5 * b + 3)
abbrev td (c : Nat → Nat) (b : Nat) : Nat := c (38 + 5 * b + 4)
abbrev pu (c : Nat → Nat) (a b : Nat) : Nat := c (148 + 10 * a + b)
def fo (c : Nat → Nat) (b : Nat) : Nat := st c b - td c b
def al (c : Nat → Nat) : Nat := 2 ^ c 1 - 1
def hr (c : Nat → Nat) : Nat := c 2 / 60 % 24
def sr (c : Nat → Nat) : Nat := c (14 + hr c)
/-- whom one may not go without -/
def co (c : Nat → Nat) (b : Nat) : Nat → Nat
  | 0 => 0
  | k + 1 => if c (124 + 2 * k) = b then co c b k ||| 2 ^ c (124 + 2 * k + 1) else co c b k
/-- two that may not be alone -/
def apt (c : Nat → Nat) (s k : Nat) : Bool := s.testBit (c (88 + 3 * k)) && s.testBit (c (88 + 3 * k + 1)) && (decide (c (88 + 3 * k + 2) = 0) || !s.testBit (c (88 + 3 * k + 2) - 1))
def may (c : Nat → Nat) (s : Nat) : Bool := allF (fun k => !apt c s k) 0 (c 12)
/-- what holds of what is told -/
def WR (c : Nat → Nat) : Prop := c 0 ≤ 10 ∧ c 1 ≤ 10 ∧ (1 ≤ c 5 ∧ c 5 ≤ 999) ∧ c 6 ≤ 99 ∧ (1 ≤ c 7 ∧ c 7 ≤ 60) ∧ c 12 ≤ 12 ∧ c 13 ≤ 12 ∧ (∀ h, h < 24 → c (14 + h) ≤ 9) ∧ (∀ b, b < c 1 → kd c b ≤ 3 ∧ st c b ≤ 9 ∧ 1 ≤ wt c b ∧ wt c b ≤ 99 ∧ sm c b ≤ 1) ∧ (∀ k, k < c 12 → c (88 + 3 * k) < c 1 ∧ c (88 + 3 * k + 1) < c 1 ∧ c (88 + 3 * k + 2) ≤ c 1) ∧ (∀ k, k < c 13 → c (124 + 2 * k) < c 1 ∧ c (124 + 2 * k + 1) < c 1)
/-- .. and of who is where, T calls on -/
def WB (T : Nat) (c : Nat → Nat) : Prop := c 2 ≤ 4000 * T ∧ c 3 ≤ 1 ∧ c 4 < 2 ^ c 1 ∧ c 10 ≤ T ∧ c 11 ≤ T ∧ (∀ b, b < 10 → td c b ≤ 2 * T ∧ (c 1 ≤ b → td c b = 0)) ∧ (∀ a b, a < 10 → b < 10 → pu c a b ≤ T ∧ (c 1 ≤ a ∨ c 1 ≤ b → pu c a b = 0))
def XRv (R : Nat) (X : Mem) (c : Nat → Nat) : Prop := X R 0 = nI (c 0) ∧ X R 1 = nI (c 1) ∧ (∀ b, b < c 1 → X (R + 1) b = nI (kd c b) ∧ X (R + 2) b = nI (st c b) ∧ X (R + 3) b = nI (wt c b)) ∧ X R 5 = nI (mk (fun b => decide (sm c b = 1)) (c 1)) ∧ (X R 6 = nI (c 5) ∧ X R 7 = nI (c 6) ∧ X R 8 = nI (c 7)) ∧ (∀ h, h < 24 → X (R + 4) h = nI (c (14 + h))) ∧ X R 10 = nI (c 12) ∧ (∀ k, k < c 12 → X (R + 5) k = nI (2 ^ c (88 + 3 * k) ||| 2 ^ c (88 + 3 * k + 1)) ∧ X (R + 6) k = nI (if c (88 + 3 * k + 2) = 0 then 0 else 2 ^ (c (88 + 3 * k + 2) - 1))) ∧ X R 13 = nI (c 13) ∧ (∀ b, b < 10 → X (R + 7) b = nI (co c b (c 13)))
def XB (R : Nat) (X : Mem) (c : Nat → Nat) : Prop := X R 0 = nI (c 4) ∧ X R 1 = nI (c 3) ∧ X R 2 = nI (c 2) ∧ X R 3 = nI (c 10) ∧ X R 4 = nI (c 11) ∧ (∀ b, b < 10 → X (R + 1) b = nI (td c b)) ∧ (∀ a b, a < 10 → b < 10 → X (R + 2 + 1 + a) b = nI (pu c a b))
def LV (X : Mem) (c : Nat → Nat) : Prop := XRv 6 X c ∧ XB 30 X c ∧ WR c ∧ ∃ T, T ≤ 520 ∧ WB T c
theorem WR_n {c : Nat → Nat} (h : WR c) : c 1 ≤ 10 := h.2.1
theorem WR_al {c : Nat → Nat} (h : WR c) : al c < 1024 ∧ al c < 2 ^ c 1 ∧ al c + 1 = 2 ^ c 1 := by
  have h1 := pw_10 h.2.1
  have h2 := pw_pos (c 1)
  unfold al
  omega
theorem al_b {c : Nat → Nat} (i : Nat) : (al c).testBit i = decide (i < c 1) := al_tb (c 1) i
theorem fo_le {c : Nat → Nat} (h : WR c) {b : Nat} (hb : b < c 1) : fo c b ≤ 9 := by
  have h1 := h.2.2.2.2.2.2.2.2.1 b hb
  unfold fo
  omega
theorem sr_le {c : Nat → Nat} (h : WR c) : sr c ≤ 9 := h.2.2.2.2.2.2.2.1 _ (Nat.mod_lt _ (by decide))
theorem co_lt {c : Nat → Nat} (h : WR c) (b : Nat) : ∀ k, k ≤ c 13 → co c b k < 2 ^ c 1
  | 0, _ => pw_pos _
  | k + 1, hk => by
    have h1 := co_lt h b k (by omega)
    have h2 := (h.2.2.2.2.2.2.2.2.2.2 k (by omega)).2
    unfold co
    split
    · exact or_lt h1 (pw_lt h2)
    · exact h1
theorem co_tb {c : Nat → Nat} {b i : Nat} : ∀ {n : Nat}, (co c b n).testBit i = true ↔ ∃ k, k < n ∧ c (124 + 2 * k) = b ∧ c (124 + 2 * k + 1) = i
  | 0 => by
    unfold co
    rw [Nat.zero_testBit]
    exact ⟨fun h => Bool.noConfusion h, fun ⟨k, hk, _⟩ => absurd hk (Nat.not_lt_zero k)⟩
  | n + 1 => by
    have ih := co_tb (c := c) (b := b) (i := i) (n := n)
    unfold co
    by_cases h : c (124 + 2 * n) = b
    · rw [if_pos h, Nat.testBit_or, Bool.or_eq_true, ih, Nat.testBit_two_pow, decide_eq_true_iff]
      constructor
      · rintro (⟨k, h1, h2⟩ | h1)
        · exact ⟨k, by omega, h2⟩
        · exact ⟨n, by omega, h, h1⟩
      · rintro ⟨k, h1, h2, h3⟩
        rcases Nat.lt_or_ge k n with q | q
        · exact Or.inl ⟨k, q, h2, h3⟩
        · exact Or.inr ((show k = n by omega) ▸ h3)
    · rw [if_neg h, ih]
      constructor
      · rintro ⟨k, h1, h2⟩
        exact ⟨k, by omega, h2⟩
      · rintro ⟨k, h1, h2, h3⟩
        rcases Nat.lt_or_ge k n with q | q
        · exact ⟨k, q, h2, h3⟩
        · exact absurd ((show k = n by omega) ▸ h2) h
theorem co_0 {c : Nat → Nat} {b : Nat} {n : Nat} : co c b n = 0 ↔ ∀ k, k < n → ¬ c (124 + 2 * k) = b := by
  constructor
  · intro h k hk e
    have h1 := (co_tb (c := c) (b := b) (i := c (124 + 2 * k + 1)) (n := n)).mpr ⟨k, hk, e, rfl⟩
    rw [h, Nat.zero_testBit] at h1
    exact Bool.noConfusion h1
  · intro h
    refine Nat.eq_of_testBit_eq fun i => ?_
    rw [Nat.zero_testBit]
    cases h1 : (co c b n).testBit i
    · rfl
    · obtain ⟨k, h2, h3, _⟩ := co_tb.mp h1
      exact absurd h3 (h k h2)
theorem sum_add {f : Nat → Nat} {b s : Nat} (h : s < 2 ^ b) : sB f (2 ^ b + s) (b + 1) = sB f s b + f b := by
  have h1 : ∀ i, (2 ^ b + s).testBit i = (s.testBit i || decide (i = b)) := fun i => by rw [Nat.add_comm]; exact tb_addpow h
  show sB f (2 ^ b + s) b + (if (2 ^ b + s).testBit b then f b else 0) = _
  rw [h1 b, decide_eq_true rfl, Bool.or_true, if_pos rfl]
  congr 1
  refine sB_cong fun k hk => ?_
  rw [h1 k, decide_eq_false (by omega), Bool.or_false]
theorem sum_low {f : Nat → Nat} {b s : Nat} (h : s < 2 ^ b) : sB f s (b + 1) = sB f s b := by
  show sB f s b + _ = _
  rw [tb_big h (Nat.le_refl b), if_neg (by decide), Nat.add_zero]
theorem uni_add {f : Nat → Nat} {b s : Nat} (h : s < 2 ^ b) : oB f (2 ^ b + s) (b + 1) = oB f s b ||| f b := by
  have h1 : ∀ i, (2 ^ b + s).testBit i = (s.testBit i || decide (i = b)) := fun i => by rw [Nat.add_comm]; exact tb_addpow h
  show (if (2 ^ b + s).testBit b then oB f (2 ^ b + s) b ||| f b else oB f (2 ^ b + s) b) = _
  rw [h1 b, decide_eq_true rfl, Bool.or_true, if_pos rfl]
  congr 1
  refine oB_cong fun k hk => ⟨?_, rfl⟩
  rw [h1 k, decide_eq_false (by omega), Bool.or_false]
theorem uni_low {f : Nat → Nat} {b s : Nat} (h : s < 2 ^ b) : oB f s (b + 1) = oB f s b := by
  show (if s.testBit b then _ else _) = _
  rw [tb_big h (Nat.le_refl b), if_neg (by decide)]
theorem or_add {b s : Nat} (h : s < 2 ^ b) : 2 ^ b ||| s = 2 ^ b + s := by
  have := Nat.two_pow_add_eq_or_of_lt h 1
  rw [Nat.mul_one] at this
  exact this.symm
/-! the class reads -/
theorem k_everyone {X : Mem} {c : Nat → Nat} {R : Nat} (h : X R 1 = nI (c 1)) (hw : WR c) : rv_everyone R X = some (nI (al c)) := by
  have h1 := WR_n hw
  have h2 := pw_pos (c 1)
  unfold rv_everyone
  rw [h]
  simp (disch := omega) only [n_lit, n_m31, n_shl1, n_sub]
  rfl
theorem k_hasYes {X : Mem} {c : Nat → Nat} {R b : Nat} (h : X R 1 = nI (c 1)) (hw : WR c) (hb : b < c 1) : rv_hasBeing R (nI b) X = some (nI 1) := by
  have h1 := WR_n hw
  unfold rv_hasBeing
  rw [h]
  simp (disch := omega) only [n_lit, n_lt, if_neg, if_pos]
theorem k_hasNo {X : Mem} {c : Nat → Nat} {R : Nat} {p : Int32} (h : X R 1 = nI (c 1)) (hw : WR c) (hb : ∀ b, b < c 1 → p ≠ nI b) : rv_hasBeing R p X = some (nI 0) := by
  have h1 := WR_n hw
  unfold rv_hasBeing
  rw [h]
  rcases pk_ix p (n := c 1) (by omega) with q | q | ⟨j, q, rfl⟩
  · rw [if_pos q]
    rfl
  · by_cases q2 : p < 0
    · rw [if_pos q2]
      rfl
    · rw [if_neg q2, if_neg (Int32.not_lt.mpr q)]
      rfl
  · exact absurd rfl (hb j q)
theorem r_isBYes {Y : Mem} {c : Nat → Nat} {b : Nat} (h : EY Y c) (hw : WR c) (hb : b < c 1) : md_isBeing (nI b) Y = some (nI 1) := by
  have h1 := WR_n hw
  have e1 := EY_n h (i := 1) (by omega) (by omega)
  unfold md_isBeing md_isIn
  rw [e1]
  simp (disch := omega) only [n_lit, n_sub, n_lt, if_neg, Option.bind_some]
  rfl
theorem r_isBNo {Y : Mem} {c : Nat → Nat} {p : Int32} (h : EY Y c) (hw : WR c) (hb : ∀ b, b < c 1 → p ≠ nI b) : md_isBeing p Y = some (nI 0) := by
  have h1 := WR_n hw
  have e1 := EY_n h (i := 1) (by omega) (by omega)
  unfold md_isBeing md_isIn
  rw [e1]
  rcases pk_ix p (n := c 1) (by omega) with q | q | ⟨j, q, rfl⟩
  · rw [if_pos q]
    rfl
  · by_cases q2 : p < 0
    · rw [if_pos q2]
      rfl
    · rw [if_neg q2, if_pos ?_]
      · rfl
      · rw [Int32.le_iff_toInt_le, n_toI (by omega)] at q
        rw [Int32.lt_iff_toInt_lt, show nI (c 1) - 1 = nI (c 1) - nI 1 from rfl, pk_sub_toInt (by omega) (by omega)]
        omega
  · exact absurd rfl (hb j q)
theorem r_all {Y : Mem} {c : Nat → Nat} (h : EY Y c) (hw : WR c) : md_everybody Y = some (nI (al c)) := by
  have h1 := WR_n hw
  have h2 := pw_pos (c 1)
  unfold md_everybody
  rw [EY_n h (i := 1) (by omega) (by omega)]
  simp (disch := omega) only [n_lit, n_m31, n_shl1, n_sub]
  rfl
theorem r_of {Y : Mem} {c : Nat → Nat} {b w : Nat} (h : EY Y c) (hb : b < 10) (h5 : w < 5) : md_of (nI b) (nI w) Y = some (nI (c (38 + 5 * b + w))) := by
  unfold md_of
  simp (disch := omega) only [n_lit, n_mul, n_add, chk_in, n_cl]
  rw [EY_n h (by omega) (by omega)]
theorem r_isOf {Y : Mem} {a k : Nat} (hk : k < 32) : md_isOf (nI a) (nI k) Y = some (bI (a.testBit k)) := by
  unfold md_isOf
  simp (disch := omega) only [n_lit, n_m31, n_bit]
  unfold tb bI
  cases a.testBit k <;> rfl
theorem k_hour {X : Mem} {c : Nat → Nat} {T : Nat} (h : XB 30 X c) (hb : WB T c) (hT : T ≤ 520) : bk_hour 30 X = some (nI (hr c)) := by
  have h2 : c 2 ≤ 4000 * T := hb.1
  have h1 : X 30 2 = nI (c 2) := h.2.2.1
  unfold bk_hour jm_floorMod
  rw [h1]
  have h3 : c 2 / 60 < 2 ^ 31 := by omega
  have h4 : (c 2 / 60) ^^^ 24 < 2147483648 := xor_lt (n := 31) h3 (by decide)
  simp (disch := omega) only [n_lit, n_div, chk_nz, n_xor, n_lt, n_rem, if_neg, Option.bind_some]
  rfl
theorem r_stream {Y : Mem} {c : Nat → Nat} {T : Nat} (h : EY Y c) (hb : WB T c) (hT : T ≤ 520) : md_stream Y = some (nI (sr c)) := by
  have h2 : c 2 ≤ 4000 * T := hb.1
  unfold md_stream
  rw [EY_n h (i := 2) (by omega) (by omega)]
  simp (disch := omega) only [n_lit, n_div, n_rem, n_add, chk_in, n_cl]
  rw [EY_n h (by omega) (by omega)]
  rfl
theorem r_force {Y : Mem} {c : Nat → Nat} {T b : Nat} (h : EY Y c) (hw : WR c) (hb : WB T c) (hT : T ≤ 520) (hn : b < c 1) : md_forceOf (nI b) Y = some (nI (fo c b)) := by
  have h1 := WR_n hw
  have h2 : c (38 + 5 * b + 1) ≤ 9 := (hw.2.2.2.2.2.2.2.2.1 b hn).2.1
  have h3 : c (38 + 5 * b + 4) ≤ 2 * T := (hb.2.2.2.2.2.1 b (by omega)).1
  show _ = some (nI (c (38 + 5 * b + 1) - c (38 + 5 * b + 4)))
  unfold md_forceOf
  rw [show (1 : Int32) = nI 1 from rfl, show (4 : Int32) = nI 4 from rfl, r_of h (by omega) (by omega), r_of h (by omega) (by omega)]
  simp only [Option.bind_some]
  by_cases q : c (38 + 5 * b + 4) ≤ c (38 + 5 * b + 1)
  · simp (disch := omega) only [n_lit, n_sub, n_lt, if_neg]
  · rw [if_pos (pk_sneg (by omega) (by omega)), Nat.sub_eq_zero_of_le (by omega)]
    rfl
theorem k_force {X : Mem} {c : Nat → Nat} {T b : Nat} (h : XRv 6 X c) (h2 : XB 30 X c) (hw : WR c) (hb : WB T c) (hT : T ≤ 520) (hn : b < c 1) : bk_forceOf 30 (nI b) 6 X = some (nI (fo c b)) := by
  have h1 := WR_n hw
  have h3 : c (38 + 5 * b + 1) ≤ 9 := (hw.2.2.2.2.2.2.2.2.1 b hn).2.1
  have h4 : c (38 + 5 * b + 4) ≤ 2 * T := (hb.2.2.2.2.2.1 b (by omega)).1
  have e1 : X 8 b = nI (c (38 + 5 * b + 1)) := (h.2.2.1 b hn).2.1
  have e2 : X 31 b = nI (c (38 + 5 * b + 4)) := h2.2.2.2.2.2.1 b (by omega)
  show _ = some (nI (c (38 + 5 * b + 1) - c (38 + 5 * b + 4)))
  unfold bk_forceOf imax
  simp (disch := omega) only [n_lit, chk_in, n_cl]
  show some (if nI 0 < X 8 b - X 31 b then X 8 b - X 31 b else nI 0) = _
  rw [e1, e2]
  by_cases q : c (38 + 5 * b + 4) ≤ c (38 + 5 * b + 1)
  · by_cases q3 : c (38 + 5 * b + 4) < c (38 + 5 * b + 1)
    · simp (disch := omega) only [n_sub, n_lt, if_pos]
    · simp (disch := omega) only [n_sub, n_lt, if_neg]
      rw [show c (38 + 5 * b + 1) - c (38 + 5 * b + 4) = 0 by omega]
  · rw [if_neg ?_, Nat.sub_eq_zero_of_le (by omega)]
    rw [Int32.lt_iff_toInt_lt, pk_sub_toInt (by omega) (by omega)]
    show ¬ (0 : Int) < _
    omega
theorem r_weight_L {Y : Mem} {c : Nat → Nat} {s : Nat} (h : EY Y c) (hw : WR c) {K : Int32 → Option Int32} : ∀ m k v fu, k + m = c 1 → m < fu → md_weightOf_L10 (nI s) Y K fu (nI (v + sB (wt c) s k)) (nI k) = K (nI (v + sB (wt c) s (c 1)))
  | 0, k, v, 0, _, hf => absurd hf (by omega)
  | 0, k, v, fu + 1, hk, _ => by
    have h1 := WR_n hw
    rw [md_weightOf_L10, EY_n h (i := 1) (by omega) (by omega)]
    simp (disch := omega) only [n_lt, if_neg]
    rw [show k = c 1 by omega]
  | m + 1, k, v, 0, _, hf => absurd hf (by omega)
  | m + 1, k, v, fu + 1, hk, hf => by
    have h1 := WR_n hw
    have ih := r_weight_L h hw (K := K) (s := s) m (k + 1) v fu (by omega) (by omega)
    have es : sB (wt c) s (k + 1) = sB (wt c) s k + if s.testBit k then wt c k else 0 := rfl
    rw [md_weightOf_L10, EY_n h (i := 1) (by omega) (by omega)]
    rw [show (2 : Int32) = nI 2 from rfl, r_isOf (by omega), r_of h (by omega) (by omega)]
    simp (disch := omega) only [n_lit, n_lt, if_pos, Option.bind_some, bI_0, n_add]
    rw [← ih, es]
    cases s.testBit k
    · simp only [if_true, Nat.add_zero, Bool.false_eq_true, if_false]
    · simp only [Bool.true_eq_false, if_false, if_true]
      rw [Nat.add_assoc]
theorem r_weight {Y : Mem} {c : Nat → Nat} {s : Nat} (h : EY Y c) (hw : WR c) : md_weightOf (nI s) Y = some (nI (c 6 + sB (wt c) s (c 1))) := by
  have h1 := WR_n hw
  have := r_weight_L h hw (K := fun v => some v) (s := s) (c 1) 0 (c 6) FU (by omega) (by rw [FUe]; omega)
  unfold md_weightOf
  rw [EY_n h (i := 6) (by omega) (by omega)]
  exact this
theorem r_forces_L {Y : Mem} {c : Nat → Nat} {T s : Nat} (h : EY Y c) (hw : WR c) (hb : WB T c) (hT : T ≤ 520) {K : Int32 → Option Int32} : ∀ m k fu, k + m = c 1 → m < fu → md_forceOfAll_L4 (nI s) Y K fu (nI (sB (fo c) s k)) (nI k) = K (nI (sB (fo c) s (c 1)))
  | 0, k, 0, _, hf => absurd hf (by omega)
  | 0, k, fu + 1, hk, _ => by
    have h1 := WR_n hw
    rw [md_forceOfAll_L4, EY_n h (i := 1) (by omega) (by omega)]
    simp (disch := omega) only [n_lt, if_neg]
    rw [show k = c 1 by omega]
  | m + 1, k, 0, _, hf => absurd hf (by omega)
  | m + 1, k, fu + 1, hk, hf => by
    have h1 := WR_n hw
    have ih := r_forces_L h hw hb hT (K := K) (s := s) m (k + 1) fu (by omega) (by omega)
    have es : sB (fo c) s (k + 1) = sB (fo c) s k + if s.testBit k then fo c k else 0 := rfl
    rw [md_forceOfAll_L4, EY_n h (i := 1) (by omega) (by omega), r_isOf (by omega), r_force h hw hb hT (by omega)]
    simp (disch := omega) only [n_lit, n_lt, if_pos, Option.bind_some, bI_0, n_add]
    rw [← ih, es]
    cases s.testBit k
    · simp only [if_true, Nat.add_zero, Bool.false_eq_true, if_false]
    · simp only [Bool.true_eq_false, if_false, if_true]
theorem r_forces {Y : Mem} {c : Nat → Nat} {T s : Nat} (h : EY Y c) (hw : WR c) (hb : WB T c) (hT : T ≤ 520) : md_forceOfAll (nI s) Y = some (nI (sB (fo c) s (c 1))) := by
  have h1 := WR_n hw
  exact r_forces_L h hw hb hT (K := fun v => some v) (s := s) (c 1) 0 FU (by omega) (by rw [FUe]; omega)
/-- who is apart: the class -/
theorem apt_k {c : Nat → Nat} (hw : WR c) {s k : Nat} (hk : k < c 12) : (((s &&& (2 ^ c (88 + 3 * k) ||| 2 ^ c (88 + 3 * k + 1))) = (2 ^ c (88 + 3 * k) ||| 2 ^ c (88 + 3 * k + 1))) ∧ (s &&& (if c (88 + 3 * k + 2) = 0 then 0 else 2 ^ (c (88 + 3 * k + 2) - 1))) = 0) ↔ apt c s k = true := by
  have e1 : ((s &&& (2 ^ c (88 + 3 * k) ||| 2 ^ c (88 + 3 * k + 1))) = (2 ^ c (88 + 3 * k) ||| 2 ^ c (88 + 3 * k + 1))) ↔ s.testBit (c (88 + 3 * k)) = true ∧ s.testBit (c (88 + 3 * k + 1)) = true := by
    constructor
    · intro h
      have h1 : ∀ i, (s &&& (2 ^ c (88 + 3 * k) ||| 2 ^ c (88 + 3 * k + 1))).testBit i = (2 ^ c (88 + 3 * k) ||| 2 ^ c (88 + 3 * k + 1)).testBit i := fun i => by rw [h]
      have h2 := h1 (c (88 + 3 * k))
      have h3 := h1 (c (88 + 3 * k + 1))
      simp only [Nat.testBit_and, Nat.testBit_or, Nat.testBit_two_pow, decide_true, Bool.true_or, Bool.or_true, Bool.and_true] at h2 h3
      exact ⟨h2, h3⟩
    · rintro ⟨h1, h2⟩
      refine Nat.eq_of_testBit_eq fun i => ?_
      simp only [Nat.testBit_and, Nat.testBit_or, Nat.testBit_two_pow]
      by_cases q1 : c (88 + 3 * k) = i
      · rw [← q1, h1]; simp
      · by_cases q2 : c (88 + 3 * k + 1) = i
        · rw [← q2, h2]; simp
        · simp [q1, q2]
  have e2 : ((s &&& (if c (88 + 3 * k + 2) = 0 then 0 else 2 ^ (c (88 + 3 * k + 2) - 1))) = 0) ↔ (c (88 + 3 * k + 2) = 0 ∨ s.testBit (c (88 + 3 * k + 2) - 1) = false) := by
    by_cases q : c (88 + 3 * k + 2) = 0
    · simp [q]
    · rw [if_neg q]
      constructor
      · intro h
        refine Or.inr ?_
        have h1 : (s &&& 2 ^ (c (88 + 3 * k + 2) - 1)).testBit (c (88 + 3 * k + 2) - 1) = false := by rw [h, Nat.zero_testBit]
        simpa only [Nat.testBit_and, Nat.testBit_two_pow, decide_true, Bool.and_true] using h1
      · rintro (h | h)
        · exact absurd h q
        · refine Nat.eq_of_testBit_eq fun i => ?_
          simp only [Nat.testBit_and, Nat.testBit_two_pow, Nat.zero_testBit]
          by_cases q1 : c (88 + 3 * k + 2) - 1 = i
          · rw [← q1, h]; rfl
          · rw [decide_eq_false q1, Bool.and_false]
  rw [e1, e2]
  unfold apt
  simp only [Bool.and_eq_true, Bool.or_eq_true, decide_eq_true_iff, Bool.not_eq_true', and_assoc]
theorem k_may_L {X : Mem} {c : Nat → Nat} {R s : Nat} (h : XRv R X c) (hw : WR c) (hs : s < 4294967296) : ∀ m k fu, k + m = c 12 → m < fu → rv_isPeaceful_L2 R (nI s) X (some (nI 1)) fu (nI k) = some (bI (allF (fun k => !apt c s k) k m))
  | 0, k, 0, _, hf => absurd hf (by omega)
  | 0, k, fu + 1, hk, _ => by
    have h1 : c 12 ≤ 12 := hw.2.2.2.2.2.1
    rw [rv_isPeaceful_L2, h.2.2.2.2.2.2.1]
    simp (disch := omega) only [n_lt, if_neg]
    rfl
  | m + 1, k, 0, _, hf => absurd hf (by omega)
  | m + 1, k, fu + 1, hk, hf => by
    have h1 : c 12 ≤ 12 := hw.2.2.2.2.2.1
    have h10 := WR_n hw
    have ih := k_may_L h hw hs m (k + 1) fu (by omega) (by omega)
    have h2 := h.2.2.2.2.2.2.2.1 k (by omega)
    have h3 := hw.2.2.2.2.2.2.2.2.2.1 k (by omega)
    have hA := apt_k hw (s := s) (k := k) (by omega)
    rw [rv_isPeaceful_L2, h.2.2.2.2.2.2.1]
    simp (disch := omega) only [n_lt, if_pos, chk_in, n_cl]
    rw [h2.1, h2.2]
    have b1 : 2 ^ c (88 + 3 * k) ||| 2 ^ c (88 + 3 * k + 1) < 2 ^ 10 := or_lt (pw_lt (by omega)) (pw_lt (by omega))
    have b2 : (if c (88 + 3 * k + 2) = 0 then 0 else 2 ^ (c (88 + 3 * k + 2) - 1)) < 2 ^ 10 := by
      split
      · decide
      · exact pw_lt (by omega)
    have b3 := and_lt s b1
    have b4 := and_lt s b2
    simp (disch := omega) only [n_lit, n_and, n_eq, n_add]
    rw [ih]
    show _ = some (bI (!apt c s k && allF (fun k => !apt c s k) (k + 1) m))
    by_cases q1 : (s &&& (2 ^ c (88 + 3 * k) ||| 2 ^ c (88 + 3 * k + 1))) = (2 ^ c (88 + 3 * k) ||| 2 ^ c (88 + 3 * k + 1))
    · rw [if_pos q1]
      by_cases q2 : (s &&& (if c (88 + 3 * k + 2) = 0 then 0 else 2 ^ (c (88 + 3 * k + 2) - 1))) = 0
      · rw [if_pos q2, hA.mp ⟨q1, q2⟩]
        rfl
      · rw [if_neg q2, Bool.eq_false_iff.mpr (fun e => q2 (hA.mpr e).2)]
        rfl
    · rw [if_neg q1, Bool.eq_false_iff.mpr (fun e => q1 (hA.mpr e).1)]
      rfl
theorem k_may {X : Mem} {c : Nat → Nat} {R s : Nat} (h : XRv R X c) (hw : WR c) (hs : s < 4294967296) : rv_isPeaceful R (nI s) X = some (bI (may c s)) := by
  have h1 : c 12 ≤ 12 := hw.2.2.2.2.2.1
  exact k_may_L h hw hs (c 12) 0 FU (by omega) (by rw [FUe]; omega)
theorem r_may_L {Y : Mem} {c : Nat → Nat} {s : Nat} (h : EY Y c) (hw : WR c) : ∀ m k fu, k + m = c 12 → m < fu → md_mayBe_L2 (nI s) Y (some (nI 1)) fu (nI k) = some (bI (allF (fun k => !apt c s k) k m))
  | 0, k, 0, _, hf => absurd hf (by omega)
  | 0, k, fu + 1, hk, _ => by
    have h1 : c 12 ≤ 12 := hw.2.2.2.2.2.1
    rw [md_mayBe_L2, EY_n h (i := 12) (by omega) (by omega)]
    simp (disch := omega) only [n_lt, if_neg]
    rfl
  | m + 1, k, 0, _, hf => absurd hf (by omega)
  | m + 1, k, fu + 1, hk, hf => by
    have h1 : c 12 ≤ 12 := hw.2.2.2.2.2.1
    have h10 := WR_n hw
    have ih := r_may_L h hw (s := s) m (k + 1) fu (by omega) (by omega)
    have h3 := hw.2.2.2.2.2.2.2.2.2.1 k (by omega)
    rw [md_mayBe_L2, EY_n h (i := 12) (by omega) (by omega)]
    simp (disch := omega) only [n_lit, n_mul, n_add, n_lt, if_pos, chk_in, n_cl, lt1]
    rw [EY_n h (i := 88 + 3 * k) (by omega) (by omega), EY_n h (i := 88 + 3 * k + 1) (by omega) (by omega), EY_d h (i := 88 + 3 * k + 2) (by omega)]
    rw [r_isOf (by omega), r_isOf (by omega)]
    simp only [Option.bind_some, bI_0]
    rw [ih]
    show _ = some (bI (!apt c s k && allF (fun k => !apt c s k) (k + 1) m))
    unfold apt
    cases q1 : s.testBit (c (88 + 3 * k))
    · rfl
    · cases q2 : s.testBit (c (88 + 3 * k + 1))
      · rfl
      · simp only [Bool.true_eq_false, if_false, Bool.true_and]
        by_cases q3 : c (88 + 3 * k + 2) = 0
        · rw [q3, if_pos (by decide)]
          rfl
        · rw [decide_eq_false q3, n_sub (by omega)]
          simp (disch := omega) only [n_ng, if_false]
          rw [r_isOf (by omega)]
          simp only [Option.bind_some, bI_0]
          cases q4 : s.testBit (c (88 + 3 * k + 2) - 1)
          · rfl
          · rfl
theorem r_may {Y : Mem} {c : Nat → Nat} {s : Nat} (h : EY Y c) (hw : WR c) : md_mayBe (nI s) Y = some (bI (may c s)) := by
  have h1 : c 12 ≤ 12 := hw.2.2.2.2.2.1
  exact r_may_L h hw (c 12) 0 FU (by omega) (by rw [FUe]; omega)
