/-! a text: blanks, words, numbers, signs; the class's things -/
def runF (q : Nat → Bool) : Nat → Nat → Nat
  | 0, p => p
  | m + 1, p => if q p = true then runF q m (p + 1) else p
/-- on, as long as q holds, to e at the most -/
def run (q : Nat → Bool) (e p : Nat) : Nat := runF q (e - p) p
theorem runF_spec (q : Nat → Bool) : ∀ m p, p ≤ runF q m p ∧ runF q m p ≤ p + m ∧ (∀ i, p ≤ i → i < runF q m p → q i = true) ∧ (runF q m p < p + m → q (runF q m p) = false)
  | 0, p => ⟨Nat.le_refl _, Nat.le_refl _, fun i h1 h2 => absurd h2 (show ¬ i < p by omega), fun h => absurd h (show ¬ p < p + 0 by omega)⟩
  | m + 1, p => by
    by_cases h : q p = true
    · have e : runF q (m + 1) p = runF q m (p + 1) := if_pos h
      obtain ⟨a, b, d, f⟩ := runF_spec q m (p + 1)
      rw [e]
      refine ⟨by omega, by omega, fun i h1 h2 => ?_, fun h => f (by omega)⟩
      by_cases e2 : i = p
      · rw [e2]; exact h
      · exact d i (by omega) h2
    · have e : runF q (m + 1) p = p := if_neg h
      rw [e]
      exact ⟨Nat.le_refl _, by omega, fun i h1 h2 => absurd h2 (by omega), fun _ => Bool.eq_false_iff.mpr h⟩
theorem run_ge {q : Nat → Bool} {e p : Nat} : p ≤ run q e p := (runF_spec q _ p).1
theorem run_le {q : Nat → Bool} {e p : Nat} (h : p ≤ e) : run q e p ≤ e := by
  have := (runF_spec q (e - p) p).2.1
  unfold run
  omega
theorem run_in {q : Nat → Bool} {e p i : Nat} (h1 : p ≤ i) (h2 : i < run q e p) : q i = true := (runF_spec q _ p).2.2.1 i h1 h2
theorem run_out {q : Nat → Bool} {e p : Nat} (h : run q e p < e) : q (run q e p) = false := by
  have h1 := run_ge (q := q) (e := e) (p := p)
  exact (runF_spec q (e - p) p).2.2.2 (by
    show run q e p < _
    omega)
theorem run_stop {q : Nat → Bool} {e p : Nat} (h : ¬ (p < e ∧ q p = true)) : run q e p = p := by
  unfold run
  by_cases h1 : p < e
  · obtain ⟨m, hm⟩ : ∃ m, e - p = m + 1 := ⟨e - p - 1, by omega⟩
    rw [hm]
    exact if_neg fun h2 => h ⟨h1, h2⟩
  · rw [show e - p = 0 by omega]
    rfl
theorem run_go {q : Nat → Bool} {e p : Nat} (h1 : p < e) (h2 : q p = true) : run q e p = run q e (p + 1) := by
  unfold run
  rw [show e - p = (e - (p + 1)) + 1 by omega]
  exact if_pos h2
theorem run_run {q : Nat → Bool} {e p : Nat} : run q e (run q e p) = run q e p := run_stop fun h => by
  have := run_out h.1
  rw [this] at h
  exact Bool.noConfusion h.2
/-- how a run of one kind ends, seen from a place in it -/
theorem run_eq {q : Nat → Bool} {e p r : Nat} (h1 : p ≤ r) (h2 : r ≤ e) (h3 : ∀ i, p ≤ i → i < r → q i = true) (h4 : r < e → q r = false) : run q e p = r := by
  have a := run_ge (q := q) (e := e) (p := p)
  have b := run_le (q := q) (show p ≤ e by omega)
  rcases Nat.lt_trichotomy (run q e p) r with h | h | h
  · have := run_out (q := q) (e := e) (p := p) (by omega)
    rw [h3 _ a h] at this
    exact Bool.noConfusion this
  · exact h
  · have h5 := run_in (q := q) (e := e) h1 h
    rw [h4 (by omega)] at h5
    exact Bool.noConfusion h5
def dgB (x : Nat) : Bool := decide (48 ≤ x ∧ x ≤ 57)
def ltB (x : Nat) : Bool := decide (97 ≤ x ∧ x ≤ 122)
def skp (b : Nat → Nat) (e p : Nat) : Nat := run (fun i => decide (b i = 32)) e p
def kD (b : Nat → Nat) (e p : Nat) : Nat := run (fun i => dgB (b i)) e p
def kL (b : Nat → Nat) (e p : Nat) : Nat := run (fun i => ltB (b i)) e p
/-- behind the thing at p -/
def beh (b : Nat → Nat) (e p : Nat) : Nat := if dgB (b p) = true then kD b e p else if ltB (b p) = true then kL b e p else p + 1
def nxt (b : Nat → Nat) (e p : Nat) : Nat := skp b e (beh b e p)
def wN (w j : Nat) : Nat := (schr w j).toNatClampNeg
theorem wN_eq : ∀ w, w < 58 → ∀ j, j < slen w → schr w j = nI (wN w j) := by decide +kernel
theorem slen_le : ∀ w, w < 58 → slen w ≤ 60 := by decide +kernel
theorem stx_58 : ∀ i, i < 29 → stx i < 58 := by decide +kernel
def mtB (b : Nat → Nat) (p r w : Nat) : Bool := decide (slen w = r - p) && allF (fun j => decide (wN w j = b (p + j))) 0 (slen w)
def nmC (b : Nat → Nat) (p r : Nat) : Nat := if ff (fun i => mtB b p r (stx i)) 0 29 < 29 then ff (fun i => mtB b p r (stx i)) 0 29 + 1 else 3
/-- what stands at p: the class's number of it -/
def KD (b : Nat → Nat) (e p : Nat) : Nat := if p < e then (if dgB (b p) = true then (if beh b e p - p ≤ 3 then 2 else 3) else nmC b p (beh b e p)) else 1
def nvF (b : Nat → Nat) : Nat → Nat → Nat → Nat
  | 0, _, v => v
  | m + 1, p, v => nvF b m (p + 1) (10 * v + (b p - 48))
def nvl (b : Nat → Nat) (p r : Nat) : Nat := nvF b (r - p) p 0
theorem beh_gt {b : Nat → Nat} {e p : Nat} (h : p < e) : p < beh b e p ∧ beh b e p ≤ e := by
  unfold beh
  by_cases h1 : dgB (b p) = true
  · rw [if_pos h1]
    unfold kD
    rw [run_go h h1]
    have := run_ge (q := fun i => dgB (b i)) (e := e) (p := p + 1)
    have := run_le (q := fun i => dgB (b i)) (show p + 1 ≤ e by omega)
    omega
  · rw [if_neg h1]
    by_cases h2 : ltB (b p) = true
    · rw [if_pos h2]
      unfold kL
      rw [run_go h h2]
      have := run_ge (q := fun i => ltB (b i)) (e := e) (p := p + 1)
      have := run_le (q := fun i => ltB (b i)) (show p + 1 ≤ e by omega)
      omega
    · rw [if_neg h2]
      omega
theorem nxt_gt {b : Nat → Nat} {e p : Nat} (h : p < e) : p < nxt b e p ∧ nxt b e p ≤ e := by
  have h1 := beh_gt (b := b) h
  have h2 := run_ge (q := fun i => decide (b i = 32)) (e := e) (p := beh b e p)
  have h3 := run_le (q := fun i => decide (b i = 32)) h1.2
  unfold nxt skp
  omega
theorem dg_lt {x : Nat} (h : dgB x = true) : ltB x = false := by
  unfold dgB at h
  unfold ltB
  rw [decide_eq_true_iff] at h
  exact decide_eq_false (by omega)
theorem nvF_le {b : Nat → Nat} : ∀ m p v, (∀ i, p ≤ i → i < p + m → dgB (b i) = true) → nvF b m p v ≤ 10 ^ m * v + (10 ^ m - 1)
  | 0, p, v, _ => by
    show v ≤ 10 ^ 0 * v + (10 ^ 0 - 1)
    omega
  | m + 1, p, v, h => by
    have h1 := h p (Nat.le_refl _) (by omega)
    unfold dgB at h1
    rw [decide_eq_true_iff] at h1
    have ih := nvF_le m (p + 1) (10 * v + (b p - 48)) (fun i a d => h i (by omega) (by omega))
    have hp : 0 < 10 ^ m := Nat.pos_of_ne_zero (by simp)
    have e : 10 ^ (m + 1) = 10 * 10 ^ m := by rw [Nat.pow_succ, Nat.mul_comm]
    have h2 : 10 ^ m * (10 * v + (b p - 48)) ≤ 10 ^ m * (10 * v + 9) := Nat.mul_le_mul_left _ (by omega)
    have h3 : 10 ^ m * (10 * v + 9) = 10 * 10 ^ m * v + 9 * 10 ^ m := by
      rw [Nat.mul_add, ← Nat.mul_assoc, Nat.mul_comm (10 ^ m) 10, Nat.mul_comm (10 ^ m) 9]
    show nvF b m (p + 1) (10 * v + (b p - 48)) ≤ _
    rw [e]
    omega
theorem nvl_le {b : Nat → Nat} {e p : Nat} (h : KD b e p = 2) : nvl b p (beh b e p) ≤ 999 := by
  unfold KD at h
  by_cases h1 : p < e
  · rw [if_pos h1] at h
    by_cases h2 : dgB (b p) = true
    · rw [if_pos h2] at h
      by_cases h3 : beh b e p - p ≤ 3
      · have h4 := (beh_gt (b := b) h1).1
        have h5 := nvF_le (b := b) (beh b e p - p) p 0 (fun i a d => by
          have eb : beh b e p = kD b e p := if_pos h2
          exact run_in (q := fun i => dgB (b i)) (e := e) a (by
            show i < kD b e p
            omega))
        have h6 : 10 ^ (beh b e p - p) ≤ 10 ^ 3 := Nat.pow_le_pow_right (by decide) h3
        have h7 : 10 ^ 3 = 1000 := rfl
        unfold nvl
        omega
      · rw [if_neg h3] at h
        omega
    · rw [if_neg h2] at h
      unfold nmC at h
      by_cases h3 : ff (fun i => mtB b p (beh b e p) (stx i)) 0 29 < 29
      · rw [if_pos h3] at h
        have e1 : ff (fun i => mtB b p (beh b e p) (stx i)) 0 29 = 1 := by omega
        rcases ff_spec (p := fun i => mtB b p (beh b e p) (stx i)) (m := 29) (k := 0) with ⟨_, b1, _⟩ | ⟨a, _⟩
        · rw [e1] at b1
          unfold mtB at b1
          rw [Bool.and_eq_true, decide_eq_true_iff] at b1
          have h4 := (beh_gt (b := b) h1).1
          have h5 : slen (stx 1) = 0 := by decide
          omega
        · omega
      · rw [if_neg h3] at h
        omega
  · rw [if_neg h1] at h
    omega
/-! the class parts the tape -/
theorem k_dg {M : Mem} {x : Nat} (h : x ≤ 255) : tp_isDigit (nI x) M = some (bI (dgB x)) := by
  unfold tp_isDigit dgB
  simp (disch := omega) only [n_lit, n_lt]
  by_cases c1 : x < 48
  · rw [if_pos c1, decide_eq_false (by omega)]; rfl
  · rw [if_neg c1]
    by_cases c2 : 57 < x
    · rw [if_pos c2, decide_eq_false (by omega)]; rfl
    · rw [if_neg c2, decide_eq_true (by omega)]; rfl
theorem k_lt {M : Mem} {x : Nat} (h : x ≤ 255) : tp_isLetter (nI x) M = some (bI (ltB x)) := by
  unfold tp_isLetter ltB
  simp (disch := omega) only [n_lit, n_lt]
  by_cases c1 : x < 97
  · rw [if_pos c1, decide_eq_false (by omega)]; rfl
  · rw [if_neg c1]
    by_cases c2 : 122 < x
    · rw [if_pos c2, decide_eq_false (by omega)]; rfl
    · rw [if_neg c2, decide_eq_true (by omega)]; rfl
theorem k_goOn {M : Mem} {x y : Nat} (h : x ≤ 255) (h2 : y ≤ 255) : tp_goOn (nI x) (nI y) M = some (bI ((dgB x && dgB y) || (ltB x && ltB y))) := by
  unfold tp_goOn tp_goOn_J14
  rw [k_dg h, k_dg h2, k_lt h, k_lt h2]
  simp only [bind_s, n_lit, bI_0]
  cases dgB x <;> cases dgB y <;> cases ltB x <;> cases ltB y <;> rfl
/-- the tape's bytes -/
def TX (M : Mem) (e : Nat) (b : Nat → Nat) : Prop := M 1 1 = nI e ∧ e ≤ 400 ∧ ∀ i, i < e → M 2 i = nI (b i) ∧ b i ≤ 255
theorem TX_cong {M M' : Mem} {e : Nat} {b : Nat → Nat} (h : TX M e b) (h2 : ∀ r i, ((r = 1 ∧ i = 1) ∨ r = 2) → M' r i = M r i) : TX M' e b := ⟨by rw [h2 _ _ (by omega), h.1], h.2.1, fun i hi => by rw [h2 _ _ (by omega)]; exact h.2.2 i hi⟩
theorem kn_L {M : Mem} {e : Nat} {b : Nat → Nat} {r : Nat} (h : TX M e b) (hr : r ≤ e) (hd : ∀ i, i < r → True) {K : Int32 → Option Int32} {p1 : Int32} : ∀ m k v fu, k + m = r → m < fu → (∀ i, k ≤ i → i < r → 48 ≤ b i) → tp_numberOf_L5 p1 (nI r) M K fu (nI v) (nI k) = K (nI (nvF b m k v))
  | 0, k, v, 0, _, hf, _ => absurd hf (by omega)
  | 0, k, v, fu + 1, hk, _, _ => by
    have := h.2.1
    rw [tp_numberOf_L5]
    simp (disch := omega) only [n_lit, n_lt, if_neg]
    rfl
  | m + 1, k, v, 0, _, hf, _ => absurd hf (by omega)
  | m + 1, k, v, fu + 1, hk, hf, h48 => by
    have h4 := h.2.1
    have hb := h.2.2 k (by omega)
    have h8 := h48 k (Nat.le_refl _) (by omega)
    have ih := kn_L h hr hd (K := K) (p1 := p1) m (k + 1) (10 * v + (b k - 48)) fu (by omega) (by omega) (fun i a d => h48 i (by omega) d)
    rw [tp_numberOf_L5]
    simp (disch := omega) only [n_lit, n_lt, if_pos, chk_in, n_cl, lt1_ap, n_mul, n_add]
    rw [hb.1, n_add, n_sub (by omega), show 10 * v + b k - 48 = 10 * v + (b k - 48) by omega]
    exact ih
theorem kt_text {M : Mem} {e : Nat} {b : Nat → Nat} {p r w : Nat} (h : TX M e b) (hr : r ≤ e) (hw : w < 58) (hs : slen w = r - p) (hp : p ≤ r) {K : Option Int32} : ∀ m j fu, j + m = slen w → m < fu → tp_isText_L15 w (nI p) (nI r) M K fu (nI (p + j)) = if allF (fun j => decide (wN w j = b (p + j))) j m = true then K else some (nI 0)
  | 0, j, 0, _, hf => absurd hf (by omega)
  | 0, j, fu + 1, hk, _ => by
    have := h.2.1
    rw [tp_isText_L15]
    simp (disch := omega) only [n_lit, n_lt, if_neg]
    rfl
  | m + 1, j, 0, _, hf => absurd hf (by omega)
  | m + 1, j, fu + 1, hk, hf => by
    have h4 := h.2.1
    have hb := h.2.2 (p + j) (by omega)
    have hl := slen_le w hw
    have ih := kt_text h hr hw hs hp (K := K) m (j + 1) fu (by omega) (by omega)
    have hwj := wN_eq w hw j (by omega)
    rw [tp_isText_L15]
    simp (disch := omega) only [n_lit, n_lt, if_pos, n_sub, chk_in, n_cl]
    rw [show p + j - p = j by omega, hb.1, hwj, n_add, show p + j + 1 = p + (j + 1) by omega, ih]
    have hwn : wN w j < 4294967296 := by
      have : ∀ w, w < 58 → ∀ j, j < slen w → wN w j < 256 := by decide +kernel
      have := this w hw j (by omega)
      omega
    simp (disch := omega) only [n_eq]
    show _ = if (decide (wN w j = b (p + j)) && allF (fun j => decide (wN w j = b (p + j))) (j + 1) m) = true then K else some (nI 0)
    by_cases q : wN w j = b (p + j)
    · rw [if_pos q, decide_eq_true q, Bool.true_and]
    · rw [if_neg q, decide_eq_false q]
      rfl
theorem k_text {M : Mem} {e : Nat} {b : Nat → Nat} {p r w : Nat} (h : TX M e b) (hr : r ≤ e) (hw : w < 58) (hp : p ≤ r) : tp_isText w (nI p) (nI r) M = some (bI (mtB b p r w)) := by
  have h4 := h.2.1
  have hl := slen_le w hw
  unfold tp_isText mtB
  rw [show Int32.ofNat (slen w) = nI (slen w) from rfl, n_sub hp]
  simp (disch := omega) only [n_eq]
  by_cases q : slen w = r - p
  · rw [if_pos q, decide_eq_true q, Bool.true_and]
    have := kt_text h hr hw q hp (K := some (nI 1)) (slen w) 0 FU (by omega) (by rw [FUe]; omega)
    rw [Nat.add_zero] at this
    refine this.trans ?_
    cases allF (fun j => decide (wN w j = b (p + j))) 0 (slen w)
    · rfl
    · rfl
  · rw [if_neg q, decide_eq_false q]
    rfl
theorem k_name_L {M : Mem} {e : Nat} {b : Nat → Nat} {p r : Nat} (h : TX M e b) (hr : r ≤ e) (hp : p ≤ r) {K : Option Int32} : ∀ m k fu, k + m = 29 → m < fu → tp_nameOf_L2 (nI p) (nI r) M K fu (nI k) = if ff (fun i => mtB b p r (stx i)) k m < 29 then some (nI (ff (fun i => mtB b p r (stx i)) k m + 1)) else K
  | 0, k, 0, _, hf => absurd hf (by omega)
  | 0, k, fu + 1, hk, _ => by
    rw [tp_nameOf_L2]
    simp (disch := omega) only [n_lit, n_lt, if_neg]
    rw [if_neg (show ¬ ff (fun i => mtB b p r (stx i)) k 0 < 29 from show ¬ k < 29 by omega)]
  | m + 1, k, 0, _, hf => absurd hf (by omega)
  | m + 1, k, fu + 1, hk, hf => by
    have ih := k_name_L h hr hp (K := K) m (k + 1) fu (by omega) (by omega)
    have ef : ff (fun i => mtB b p r (stx i)) k (m + 1) = if mtB b p r (stx k) = true then k else ff (fun i => mtB b p r (stx i)) (k + 1) m := rfl
    rw [tp_nameOf_L2]
    simp (disch := omega) only [n_lit, n_lt, if_pos, chk_in, n_cl]
    rw [k_text h hr (stx_58 k (by omega)) hp, bind_s, ef]
    cases mtB b p r (stx k)
    · rw [if_pos (show bI false = nI 0 from rfl), n_add, ih]
      rfl
    · rw [if_neg (by decide), if_pos rfl, if_pos (show k < 29 by omega), n_add]
theorem k_name {M : Mem} {e : Nat} {b : Nat → Nat} {p r : Nat} (h : TX M e b) (hr : r ≤ e) (hp : p ≤ r) : tp_nameOf (nI p) (nI r) M = some (nI (nmC b p r)) := by
  have := k_name_L h hr hp (K := some (nI 3)) 29 0 FU (by omega) (by rw [FUe]; omega)
  unfold tp_nameOf nmC
  refine Eq.trans this ?_
  split <;> rfl
