/-! who is where changes: crossing, swim, minutes -/
theorem n_add0 (x : Int32) : x + nI 0 = x := Int32.add_zero x
def rc (i : Nat) : Prop := i < 2 ∨ (5 ≤ i ∧ i ≤ 7) ∨ (12 ≤ i ∧ i < 38) ∨ (38 ≤ i ∧ i < 88 ∧ ¬ (i - 38) % 5 = 4) ∨ (88 ≤ i ∧ i < 148)
theorem co_c {c c' : Nat → Nat} (e : ∀ i, rc i → c' i = c i) {b : Nat} : ∀ {n : Nat}, n ≤ 12 → co c' b n = co c b n
  | 0, _ => rfl
  | n + 1, h => by
    unfold co
    rw [co_c e (by omega), e _ (by unfold rc; omega), e _ (by unfold rc; omega)]
theorem mk_cong {p q : Nat → Bool} : ∀ {n : Nat}, (∀ k, k < n → p k = q k) → mk p n = mk q n
  | 0, _ => rfl
  | n + 1, h => by
    unfold mk
    rw [mk_cong (fun k hk => h k (by omega)), h n (by omega)]
theorem XR_c {R : Nat} {X : Mem} {c c' : Nat → Nat} (h : XRv R X c) (hw : WR c) (e : ∀ i, rc i → c' i = c i) : XRv R X c' := by
  have hn := WR_n hw
  have h12 : c 12 ≤ 12 := hw.2.2.2.2.2.1
  have h13 : c 13 ≤ 12 := hw.2.2.2.2.2.2.1
  have e1 : c' 1 = c 1 := e _ (by unfold rc; omega)
  have e12 : c' 12 = c 12 := e _ (by unfold rc; omega)
  have e13 : c' 13 = c 13 := e _ (by unfold rc; omega)
  obtain ⟨h0, h1, h2, h3, ⟨h4, h5, h6⟩, h7, h8, h9, h10, h11⟩ := h
  refine ⟨?_, ?_, fun b hb => ?_, ?_, ⟨?_, ?_, ?_⟩, fun q hq => ?_, ?_, fun k hk => ?_, ?_, fun b hb => ?_⟩
  · rw [e _ (by unfold rc; omega), h0]
  · rw [e1, h1]
  · rw [e1] at hb
    unfold kd st wt
    rw [e _ (by unfold rc; omega), e _ (by unfold rc; omega), e _ (by unfold rc; omega)]
    exact h2 b hb
  · rw [h3, e1]
    congr 1
    refine mk_cong fun k hk => ?_
    unfold sm
    rw [e _ (by unfold rc; omega)]
  · rw [e _ (by unfold rc; omega), h4]
  · rw [e _ (by unfold rc; omega), h5]
  · rw [e _ (by unfold rc; omega), h6]
  · rw [e _ (by unfold rc; omega), h7 q hq]
  · rw [e12, h8]
  · rw [e12] at hk
    rw [e _ (by unfold rc; omega), e _ (by unfold rc; omega), e _ (by unfold rc; omega)]
    exact h9 k hk
  · rw [e13, h10]
  · rw [h11 b hb, e13, co_c e h13]
theorem WR_c {c c' : Nat → Nat} (hw : WR c) (e : ∀ i, rc i → c' i = c i) : WR c' := by
  have hn := WR_n hw
  have e1 : c' 1 = c 1 := e _ (by unfold rc; omega)
  have e12 : c' 12 = c 12 := e _ (by unfold rc; omega)
  have e13 : c' 13 = c 13 := e _ (by unfold rc; omega)
  obtain ⟨h0, h1, h2, h3, h4, h5, h6, h7, h8, h9, h10⟩ := hw
  refine ⟨?_, ?_, ?_, ?_, ?_, ?_, ?_, fun q hq => ?_, fun b hb => ?_, fun k hk => ?_, fun k hk => ?_⟩
  · rw [e _ (by unfold rc; omega)]; exact h0
  · rw [e1]; exact h1
  · rw [e _ (by unfold rc; omega)]; exact h2
  · rw [e _ (by unfold rc; omega)]; exact h3
  · rw [e _ (by unfold rc; omega)]; exact h4
  · rw [e12]; exact h5
  · rw [e13]; exact h6
  · rw [e _ (by unfold rc; omega)]; exact h7 q hq
  · rw [e1] at hb
    unfold kd st wt sm
    rw [e _ (by unfold rc; omega), e _ (by unfold rc; omega), e _ (by unfold rc; omega), e _ (by unfold rc; omega)]
    exact h8 b hb
  · rw [e12] at hk
    rw [e1, e (88 + 3 * k) (by unfold rc; omega), e (88 + 3 * k + 1) (by unfold rc; omega), e (88 + 3 * k + 2) (by unfold rc; omega)]
    exact h9 k hk
  · rw [e13] at hk
    rw [e1, e (124 + 2 * k) (by unfold rc; omega), e (124 + 2 * k + 1) (by unfold rc; omega)]
    exact h10 k hk
def dbt (c : Nat → Nat) (a : Nat) : Bool := decide (kd c a = 0) || decide (kd c a = 3)
def owe (c : Nat → Nat) (L a : Nat) : Nat := if L.testBit a && dbt c a then 1 else 0
def crsC (c : Nat → Nat) (L P i : Nat) : Nat := if i = 4 then c 4 ^^^ L else if i = 3 then 1 - c 3 else if i = 10 then c 10 + 1 else if 38 ≤ i ∧ i < 88 ∧ (i - 38) % 5 = 4 then c i + tb P ((i - 38) / 5) else if 148 ≤ i ∧ i < 248 then c i + (if P.testBit ((i - 148) % 10) then owe c L ((i - 148) / 10) else 0) else c i
def swmC (c : Nat → Nat) (b i : Nat) : Nat := if i = 4 then c 4 ^^^ 2 ^ b else if i = 11 then c 11 + 1 else if i = 38 + 5 * b + 4 then c i + 2 else c i
def goC (c : Nat → Nat) (m i : Nat) : Nat := if i = 2 then c 2 + m else if 38 ≤ i ∧ i < 88 ∧ (i - 38) % 5 = 4 then c i - ((c 2 + m) / 60 - c 2 / 60) else c i
theorem owe_le (c : Nat → Nat) (L a : Nat) : owe c L a ≤ 1 := by unfold owe; split <;> omega
/-! the class -/
theorem nP_L {R D p : Nat} (hp : p < 10) {K : Mem → Option Mem} : ∀ m k fu (M : Mem), k + m = 10 → m < fu → ∃ M', bk_notePulls_L2 R (nI D) (nI p) K fu (nI k) M = K M' ∧ (∀ a, k ≤ a → a < 10 → M' (R + 2 + 1 + a) p = M (R + 2 + 1 + a) p + nI (tb D a)) ∧ (∀ r i, ¬ (R + 3 + k ≤ r ∧ r < R + 13 ∧ i = p) → M' r i = M r i)
  | 0, k, 0, M, _, hf => absurd hf (by omega)
  | 0, k, fu + 1, M, hk, _ => by
    refine ⟨M, ?_, fun s h1 h2 => absurd h2 (by omega), fun r i _ => rfl⟩
    rw [bk_notePulls_L2]
    simp (disch := omega) only [n_lit, n_lt, if_neg]
  | m + 1, k, 0, M, _, hf => absurd hf (by omega)
  | m + 1, k, fu + 1, M, hk, hf => by
    obtain ⟨M', e1, e2, e3⟩ := nP_L hp (R := R) (D := D) (K := K) m (k + 1) fu (wr M (R + 2 + 1 + k) p (M (R + 2 + 1 + k) p + nI (tb D k))) (by omega) (by omega)
    refine ⟨M', ?_, fun a h1 h2 => ?_, fun r i hr => ?_⟩
    · rw [bk_notePulls_L2, ← e1]
      simp (disch := omega) only [n_lit, n_lt, if_pos, chk_in, n_cl, n_m31, n_bit, n_add, lt1_ap]
    · rcases Nat.eq_or_lt_of_le h1 with q | q
      · subst q
        rw [e3 _ _ (by omega), wr_eq]
      · rw [e2 a q h2, wr_ne (by omega)]
    · rw [e3 r i (by omega), wr_ne (by omega)]
theorem nC_L {R L P D : Nat} {K : Mem → Option Mem} : ∀ m k fu (M : Mem), k + m = 10 → m < fu → ∃ M', bk_noteCrossing_L33 R (nI L) (nI P) (nI D) K fu (nI k) M = K M' ∧ (∀ p, k ≤ p → p < 10 → M' (R + 1) p = M (R + 1) p + nI (tb P p)) ∧ (∀ a p, a < 10 → k ≤ p → p < 10 → M' (R + 2 + 1 + a) p = M (R + 2 + 1 + a) p + nI (if P.testBit p then tb (L &&& D) a else 0)) ∧ (∀ r i, ¬ ((r = R + 1 ∨ (R + 3 ≤ r ∧ r < R + 13)) ∧ k ≤ i) → M' r i = M r i)
  | 0, k, 0, M, _, hf => absurd hf (by omega)
  | 0, k, fu + 1, M, hk, _ => by
    refine ⟨M, ?_, fun s h1 h2 => absurd h2 (by omega), fun a s _ h1 h2 => absurd h2 (by omega), fun r i _ => rfl⟩
    rw [bk_noteCrossing_L33]
    simp (disch := omega) only [n_lit, n_lt, if_neg]
  | m + 1, k, 0, M, _, hf => absurd hf (by omega)
  | m + 1, k, fu + 1, M, hk, hf => by
    by_cases hb : P.testBit k = true
    · obtain ⟨M1, g1, g2, g3⟩ := nP_L (p := k) (by omega) (R := R) (D := L &&& D) (K := fun M4 => some M4) 10 0 FU (wr M (R + 1) k (M (R + 1) k + nI 1)) (by omega) (by rw [FUe]; omega)
      obtain ⟨M', e1, e2, e3, e4⟩ := nC_L (R := R) (L := L) (P := P) (D := D) (K := K) m (k + 1) fu M1 (by omega) (by omega)
      refine ⟨M', ?_, fun p h1 h2 => ?_, fun a p h0 h1 h2 => ?_, fun r i hr => ?_⟩
      · rw [bk_noteCrossing_L33, ← e1]
        unfold bk_notePulls
        simp (disch := omega) only [n_lit, n_lt, if_pos, chk_in, n_cl, n_and, m31, n_bit, tbI_0, n_add, lt1_ap]
        rw [if_neg (by rw [hb]; decide), g1]
        rfl
      · rcases Nat.eq_or_lt_of_le h1 with q | q
        · subst q
          rw [e4 _ _ (by omega), g3 _ _ (by omega), wr_eq]
          unfold tb
          rw [hb]
          rfl
        · rw [e2 p q h2, g3 _ _ (by omega), wr_ne (by omega)]
      · rcases Nat.eq_or_lt_of_le h1 with q | q
        · subst q
          rw [e4 _ _ (by omega), g2 a (by omega) h0, wr_ne (by omega), hb]
          rfl
        · rw [e3 a p h0 q h2, g3 _ _ (by omega), wr_ne (by omega)]
      · rw [e4 r i (by omega), g3 r i (by omega), wr_ne (by omega)]
    · obtain ⟨M', e1, e2, e3, e4⟩ := nC_L (R := R) (L := L) (P := P) (D := D) (K := K) m (k + 1) fu M (by omega) (by omega)
      have hb : P.testBit k = false := Bool.eq_false_iff.mpr hb
      refine ⟨M', ?_, fun p h1 h2 => ?_, fun a p h0 h1 h2 => ?_, fun r i hr => ?_⟩
      · rw [bk_noteCrossing_L33, ← e1]
        simp (disch := omega) only [n_lit, n_lt, if_pos, n_m31, n_bit, tbI_0, n_add]
      · rcases Nat.eq_or_lt_of_le h1 with q | q
        · subst q
          rw [e4 _ _ (by omega)]
          unfold tb
          rw [hb, if_neg (by decide), n_add0]
        · rw [e2 p q h2]
      · rcases Nat.eq_or_lt_of_le h1 with q | q
        · subst q
          rw [e4 _ _ (by omega), hb, if_neg (by decide), n_add0]
        · rw [e3 a p h0 q h2]
      · rw [e4 r i (by omega)]
theorem k_debt_L {X : Mem} {c : Nat → Nat} (h : XRv 6 X c) (hw : WR c) {K : Int32 → Option Int32} : ∀ m k fu, k + m = c 1 → m < fu → rv_debtors_L4 6 X K fu (nI (mk (dbt c) k)) (nI k) = K (nI (mk (dbt c) (c 1)))
  | 0, k, 0, _, hf => absurd hf (by omega)
  | 0, k, fu + 1, hk, _ => by
    have h10 := WR_n hw
    rw [rv_debtors_L4, h.2.1]
    simp (disch := omega) only [n_lt, if_neg]
    rw [show k = c 1 by omega]
  | m + 1, k, 0, _, hf => absurd hf (by omega)
  | m + 1, k, fu + 1, hk, hf => by
    have h10 := WR_n hw
    have ih := k_debt_L h hw (K := K) m (k + 1) fu (by omega) (by omega)
    have e1 : X 7 k = nI (kd c k) := (h.2.2.1 k (by omega)).1
    have h3 := (hw.2.2.2.2.2.2.2.2.1 k (by omega)).1
    have hm := mk_lt (dbt c) k
    have e2 : mk (dbt c) k ||| 2 ^ k = mk (dbt c) k + 2 ^ k := by rw [Nat.or_comm, or_add hm, Nat.add_comm]
    rw [rv_debtors_L4, h.2.1]
    simp (disch := omega) only [n_lit, n_lt, if_pos, chk_in, n_cl, n_m31, n_shl1, n_or, n_add]
    rw [show X (6 + 1) k = X 7 k from rfl, e1]
    simp (disch := omega) only [n_eq]
    have es : mk (dbt c) (k + 1) = mk (dbt c) k + if (decide (kd c k = 0) || decide (kd c k = 3)) = true then 2 ^ k else 0 := rfl
    rw [e2, ← ih, es]
    by_cases q1 : kd c k = 0
    · rw [if_pos q1, decide_eq_true q1]
      rfl
    · rw [if_neg q1, decide_eq_false q1, Bool.false_or]
      by_cases q2 : kd c k = 3
      · rw [if_pos q2, decide_eq_true q2]
        rfl
      · rw [if_neg q2, decide_eq_false q2]
        rfl
theorem k_debt {X : Mem} {c : Nat → Nat} (h : XRv 6 X c) (hw : WR c) : rv_debtors 6 X = some (nI (mk (dbt c) (c 1))) := by
  have h10 := WR_n hw
  exact k_debt_L h hw (K := fun v => some v) (c 1) 0 FU (by omega) (by rw [FUe]; omega)
theorem imax_0 {a b : Nat} (ha : a < 1073741824) (hb : b < 1073741824) : imax (nI 0) (nI a - nI b) = nI (a - b) := by
  unfold imax
  by_cases q : b < a
  · simp (disch := omega) only [n_sub, n_lt, if_pos]
  · rw [if_neg ?_, show a - b = 0 by omega]
    rw [Int32.lt_iff_toInt_lt, pk_sub_toInt (by omega) (by omega)]
    show ¬ (0 : Int) < _
    omega
theorem pM_L {R h : Nat} {p1 : Int32} {t : Nat → Nat} (hh : h < 1073741824) (ht : ∀ b, b < 10 → t b < 1073741824) {K : Mem → Option Mem} : ∀ m k fu (M : Mem), k + m = 10 → m < fu → (∀ b, k ≤ b → b < 10 → M (R + 1) b = nI (t b)) → ∃ M', bk_passMinutes_L30 R p1 (nI h) K fu (nI k) M = K M' ∧ (∀ b, k ≤ b → b < 10 → M' (R + 1) b = nI (t b - h)) ∧ (∀ r i, ¬ (r = R + 1 ∧ k ≤ i) → M' r i = M r i)
  | 0, k, 0, M, _, hf => absurd hf (by omega)
  | 0, k, fu + 1, M, hk, _ => fun _ => by
    refine ⟨M, ?_, fun s h1 h2 => absurd h2 (by omega), fun r i _ => rfl⟩
    rw [bk_passMinutes_L30]
    simp (disch := omega) only [n_lit, n_lt, if_neg]
  | m + 1, k, 0, M, _, hf => absurd hf (by omega)
  | m + 1, k, fu + 1, M, hk, hf => fun hM => by
    have h1 := ht k (by omega)
    obtain ⟨M', e1, e2, e3⟩ := pM_L hh ht (R := R) (p1 := p1) (K := K) m (k + 1) fu (wr M (R + 1) k (nI (t k - h))) (by omega) (by omega) (fun b h1 h2 => by rw [wr_ne (by omega)]; exact hM b (by omega) h2)
    refine ⟨M', ?_, fun b h1 h2 => ?_, fun r i hr => ?_⟩
    · rw [bk_passMinutes_L30, ← e1]
      simp (disch := omega) only [n_lit, n_lt, if_pos, chk_in, n_cl, n_add, lt1_ap, hM k (Nat.le_refl k) (by omega), imax_0]
    · rcases Nat.eq_or_lt_of_le h1 with q | q
      · subst q
        rw [e3 _ _ (by omega), wr_eq]
      · exact e2 b q h2
    · rw [e3 r i (by omega), wr_ne (by omega)]
theorem goC_rc {c : Nat → Nat} {m : Nat} (i : Nat) (h : rc i) : goC c m i = c i := by
  unfold rc at h
  unfold goC
  rw [if_neg (by omega), if_neg (by omega)]
theorem goC_WB {c : Nat → Nat} {T m : Nat} (hb : WB T c) (hm : m ≤ 4000) : WB (T + 1) (goC c m) := by
  obtain ⟨h0, h1, h2, h3, h4, h5, h6⟩ := hb
  have e1 : goC c m 1 = c 1 := goC_rc 1 (by unfold rc; omega)
  refine ⟨?_, ?_, ?_, ?_, ?_, fun b hb => ?_, fun a b ha hb => ?_⟩
  · unfold goC; rw [if_pos rfl]; omega
  · exact h1
  · rw [e1]; exact h2
  · exact Nat.le_succ_of_le h3
  · exact Nat.le_succ_of_le h4
  · have := h5 b hb
    have e : td (goC c m) b = td c b - ((c 2 + m) / 60 - c 2 / 60) := by
      unfold td goC
      rw [if_neg (by omega), if_pos (by omega)]
    rw [e1, e]
    refine ⟨by omega, fun q => ?_⟩
    rw [this.2 q]
    omega
  · have := h6 a b ha hb
    have e : pu (goC c m) a b = pu c a b := by
      unfold pu goC
      rw [if_neg (by omega), if_neg (by omega)]
    rw [e1, e]
    exact ⟨by omega, this.2⟩
theorem k_pass {X : Mem} {c : Nat → Nat} {T m : Nat} (h : XB 30 X c) (hb : WB T c) (hT : T ≤ 520) (hm : m ≤ 4000) : ∃ X', bk_passMinutes 30 (nI m) X = some X' ∧ XB 30 X' (goC c m) ∧ (∀ r i, ¬ ((r = 30 ∧ i = 2) ∨ r = 31) → X' r i = X r i) := by
  obtain ⟨h0, h1, h2, h3, h4, h5, h6⟩ := h
  have h7 := hb.1
  obtain ⟨M', e1, e2, e3⟩ := pM_L (R := 30) (p1 := nI m) (h := (c 2 + m) / 60 - c 2 / 60) (t := td c) (by omega) (fun b hb2 => by have := (hb.2.2.2.2.2.1 b hb2).1; omega) (K := fun M5 => some M5) 10 0 FU (wr X 30 2 (nI (c 2 + m))) (by omega) (by rw [FUe]; omega) (fun b _ hb2 => by rw [wr_ne (by omega)]; exact h5 b hb2)
  refine ⟨M', ?_, ⟨?_, ?_, ?_, ?_, ?_, fun b hb => ?_, fun a b ha hb => ?_⟩, fun r i hr => ?_⟩
  · unfold bk_passMinutes
    rw [h2]
    simp (disch := omega) only [n_lit, n_add, n_div, n_sub, lt1_ap]
    exact e1
  · rw [e3 _ _ (by omega), wr_ne (by omega), h0]
    rfl
  · rw [e3 _ _ (by omega), wr_ne (by omega), h1]
    rfl
  · rw [e3 _ _ (by omega), wr_eq]
    rfl
  · rw [e3 _ _ (by omega), wr_ne (by omega), h3]
    rfl
  · rw [e3 _ _ (by omega), wr_ne (by omega), h4]
    rfl
  · rw [e2 b (by omega) hb]
    unfold td goC
    rw [if_neg (by omega), if_pos (by omega)]
  · rw [e3 _ _ (by omega), wr_ne (by omega), h6 a b ha hb]
    unfold pu goC
    rw [if_neg (by omega), if_neg (by omega)]
  · rw [e3 r i (by omega), wr_ne (by omega)]
/-! the reference -/
theorem EY_wr {M : Mem} {c c' : Nat → Nat} {j v : Nat} (h : EY M c) (hj : j < 648) (hs : ¬ (j = 8 ∨ (88 ≤ j ∧ j < 124 ∧ j % 3 = 0))) (e : ∀ i, i < 648 → ¬ i = j → c' i = c i) (ev : c' j = v) : EY (wr M 1 j (nI v)) c' := fun i hi => by
  by_cases q : i = j
  · subst q
    rw [wr_eq]
    unfold cI
    rw [if_neg hs, ev]
  · rw [wr_ne (by omega), h i hi]
    unfold cI
    rw [e i hi q]
theorem EY_fr {M M' : Mem} {c : Nat → Nat} (h : EY M c) (e : ∀ i, M' 1 i = M 1 i) : EY M' c := fun i hi => (e i).trans (h i hi)
theorem EY_c {M : Mem} {c c' : Nat → Nat} (h : EY M c) (e : ∀ i, i < 648 → c' i = c i) : EY M c' := fun i hi => by
  rw [h i hi]
  unfold cI
  rw [e i hi]
def goK (c : Nat → Nat) (h k i : Nat) : Nat := if 38 ≤ i ∧ i < 88 ∧ (i - 38) % 5 = 4 ∧ (i - 38) / 5 < k then c i - h else c i
theorem rG_L {c : Nat → Nat} {T h : Nat} {p1 : Int32} (hw : WR c) (hb : ∀ b, b < 10 → td c b ≤ 100000) (hh : h < 1073741824) {K : Mem → Option Mem} : ∀ m k fu (M : Mem), k + m = c 1 → m < fu → EY M (goK c h k) → ∃ M', md_goOn_L34 p1 (nI h) K fu (nI k) M = K M' ∧ EY M' (goK c h (c 1)) ∧ (∀ r i, ¬ r = 1 → M' r i = M r i)
  | 0, k, 0, M, _, hf => absurd hf (by omega)
  | 0, k, fu + 1, M, hk, _ => fun hE => by
    have h10 := WR_n hw
    refine ⟨M, ?_, ?_, fun r i _ => rfl⟩
    · rw [md_goOn_L34, EY_n hE (i := 1) (by omega) (by omega), show goK c h k 1 = c 1 from rfl]
      simp (disch := omega) only [n_lit, n_lt, if_neg]
    · rw [show c 1 = k by omega]
      exact hE
  | m + 1, k, 0, M, _, hf => absurd hf (by omega)
  | m + 1, k, fu + 1, M, hk, hf => fun hE => by
    have h10 := WR_n hw
    have h1 := hb k (by omega)
    have ek : goK c h k (38 + 5 * k + 4) = td c k := by
      unfold goK
      rw [if_neg (by omega)]
    have hE1 : EY (wr M 1 (38 + 5 * k + 4) (nI (td c k - h))) (goK c h (k + 1)) := EY_wr hE (by omega) (by omega) (fun i hi q => by
      unfold goK
      by_cases q2 : 38 ≤ i ∧ i < 88 ∧ (i - 38) % 5 = 4 ∧ (i - 38) / 5 < k
      · rw [if_pos q2, if_pos (by omega)]
      · rw [if_neg q2, if_neg (by omega)]) (by
      unfold goK
      rw [if_pos (by omega)])
    obtain ⟨M', e1, e2, e3⟩ := rG_L (T := T) hw hb hh (p1 := p1) (K := K) m (k + 1) fu _ (by omega) (by omega) hE1
    refine ⟨M', ?_, e2, fun r i hr => ?_⟩
    · rw [md_goOn_L34, EY_n hE (i := 1) (by omega) (by omega), show goK c h k 1 = c 1 from rfl, show (4 : Int32) = nI 4 from rfl, r_of hE (by omega) (by omega), ek, ← e1]
      simp (disch := omega) only [n_lit, n_lt, if_pos, Option.bind_some, n_mul, n_add, chk_in, n_cl, lt1_ap]
      by_cases q : h ≤ td c k
      · simp (disch := omega) only [n_sub, n_lt, if_neg]
      · rw [if_pos (n_sneg hh (by omega)), show td c k - h = 0 by omega]
    · rw [e3 r i hr, wr_ne (by omega)]
theorem r_goOn {Y : Mem} {c : Nat → Nat} {T m : Nat} (h : EY Y c) (hw : WR c) (hb : WB T c) (hT : T ≤ 520) (hm : m ≤ 4000) : ∃ Y', md_goOn (nI m) Y = some Y' ∧ EY Y' (goC c m) ∧ (∀ r i, ¬ r = 1 → Y' r i = Y r i) := by
  have h10 := WR_n hw
  have h7 := hb.1
  have h1 : EY (wr Y 1 2 (nI (c 2 + m))) (goK (fun i => if i = 2 then c 2 + m else c i) ((c 2 + m) / 60 - c 2 / 60) 0) := EY_wr h (by omega) (by omega) (fun i hi q => by
    unfold goK
    rw [if_neg (by omega)]
    exact if_neg q) rfl
  obtain ⟨Y', e1, e2, e3⟩ := rG_L (T := T) (c := fun i => if i = 2 then c 2 + m else c i) (h := (c 2 + m) / 60 - c 2 / 60) (p1 := nI m) (WR_c hw (fun i hi => by unfold rc at hi; show (if i = 2 then _ else _) = _; rw [if_neg (by omega)])) (fun b hb2 => by
    have := (hb.2.2.2.2.2.1 b hb2).1
    show (if 38 + 5 * b + 4 = 2 then _ else _) ≤ _
    rw [if_neg (by omega)]
    have e : td c b = c (38 + 5 * b + 4) := rfl
    omega) (by omega) (K := fun M7 => some M7) (c 1) 0 FU _ (by show 0 + c 1 = c 1; omega) (by rw [FUe]; omega) h1
  refine ⟨Y', ?_, EY_c e2 fun i hi => ?_, fun r i hr => by rw [e3 r i hr, wr_ne (by omega)]⟩
  · unfold md_goOn
    rw [EY_n h (i := 2) (by omega) (by omega)]
    simp (disch := omega) only [n_lit, n_add, n_div, n_sub, lt1_ap]
    exact e1
  · show goC c m i = goK _ _ (c 1) i
    unfold goC goK
    dsimp only
    by_cases q : i = 2
    · rw [if_pos q, if_neg (by omega), if_pos q]
    · simp only [if_neg q]
      by_cases q2 : 38 ≤ i ∧ i < 88 ∧ (i - 38) % 5 = 4
      · rw [if_pos q2]
        by_cases q3 : (i - 38) / 5 < c 1
        · rw [if_pos (by omega)]
        · rw [if_neg (by omega)]
          have h9 := (hb.2.2.2.2.2.1 ((i - 38) / 5) (by omega)).2 (by omega)
          have e : td c ((i - 38) / 5) = c i := by
            unfold td
            congr 1
            omega
          omega
      · rw [if_neg q2, if_neg (by omega)]
def up (c : Nat → Nat) (j v i : Nat) : Nat := if i = j then v else c i
theorem up_eq {c : Nat → Nat} {j v : Nat} : up c j v j = v := if_pos rfl
theorem up_ne {c : Nat → Nat} {j v i : Nat} (h : ¬ i = j) : up c j v i = c i := if_neg h
theorem EY_up {M : Mem} {c : Nat → Nat} {j : Nat} (v : Nat) (h : EY M c) (hj : j < 648) (hs : ¬ (j = 8 ∨ (88 ≤ j ∧ j < 124 ∧ j % 3 = 0))) : EY (wr M 1 j (nI v)) (up c j v) := EY_wr h hj hs (fun _ _ q => up_ne q) up_eq
