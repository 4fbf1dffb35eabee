/-! lost orders -/
def sumf (f : Nat → Nat) : Nat → Nat
  | 0 => 0
  | k + 1 => sumf f k + f k
/-- load i can follow -/
def cf (c L : Nat → Nat) (s u i : Nat) : Bool := !u.testBit i && decide (¬ tk c s (L i) = 0)
/-- in how many orders d loads more can follow -/
def hm (c L : Nat → Nat) (N : Nat) : Nat → Nat → Nat → Nat
  | 0, _, _ => 1
  | d + 1, s, u => sumf (fun i => if cf c L s u i = true then hm c L N d (nx s (L i)) (u ||| 2 ^ i) else 0) N
theorem sumf_le {f : Nat → Nat} {B : Nat} : ∀ {n : Nat}, (∀ k, k < n → f k ≤ B) → sumf f n ≤ n * B
  | 0, _ => Nat.zero_le _
  | n + 1, h => by
    have h1 := sumf_le (f := f) (B := B) (n := n) fun k hk => h k (by omega)
    have h2 := h n (by omega)
    have e : (n + 1) * B = n * B + B := Nat.succ_mul n B
    unfold sumf
    omega
theorem hm_le {c L : Nat → Nat} {N : Nat} (hN : N ≤ 6) : ∀ d s u, hm c L N d s u ≤ 6 ^ d
  | 0, _, _ => Nat.le_refl _
  | d + 1, s, u => by
    have h1 := sumf_le (f := fun i => if cf c L s u i = true then hm c L N d (nx s (L i)) (u ||| 2 ^ i) else 0) (B := 6 ^ d) (n := N) fun k _ => by
      split
      · exact hm_le hN d _ _
      · exact Nat.zero_le _
    have h2 : N * 6 ^ d ≤ 6 * 6 ^ d := Nat.mul_le_mul_right _ hN
    have e : 6 ^ (d + 1) = 6 * 6 ^ d := by rw [Nat.pow_succ, Nat.mul_comm]
    show sumf _ N ≤ _
    omega
/-- the first place from k on with p -/
def ff (p : Nat → Bool) : Nat → Nat → Nat
  | k, 0 => k
  | k, m + 1 => if p k = true then k else ff p (k + 1) m
theorem ff_spec {p : Nat → Bool} : ∀ {m k : Nat}, (ff p k m < k + m ∧ p (ff p k m) = true ∧ k ≤ ff p k m ∧ ∀ j, k ≤ j → j < ff p k m → p j = false) ∨ (ff p k m = k + m ∧ ∀ j, k ≤ j → j < k + m → p j = false)
  | 0, k => Or.inr ⟨rfl, fun j h1 h2 => absurd h2 (by omega)⟩
  | m + 1, k => by
    by_cases q : p k = true
    · have e : ff p k (m + 1) = k := if_pos q
      rw [e]
      exact Or.inl ⟨by omega, q, Nat.le_refl _, fun j h1 h2 => absurd h2 (by omega)⟩
    · have e : ff p k (m + 1) = ff p (k + 1) m := if_neg q
      rw [e]
      have q' : p k = false := Bool.eq_false_iff.mpr q
      rcases ff_spec (p := p) (m := m) (k := k + 1) with ⟨a, b, d, f⟩ | ⟨a, b⟩
      · refine Or.inl ⟨by omega, b, by omega, fun j h1 h2 => ?_⟩
        by_cases e2 : j = k
        · rw [e2]; exact q'
        · exact f j (by omega) h2
      · refine Or.inr ⟨by omega, fun j h1 h2 => ?_⟩
        by_cases e2 : j = k
        · rw [e2]; exact q'
        · exact b j (by omega) (by omega)
/-- load i is good: it follows, and all others behind it -/
def gd (c L : Nat → Nat) (N d s u i : Nat) : Bool := cf c L s u i && decide (0 < hm c L N d (nx s (L i)) (u ||| 2 ^ i))
/-- the first order -/
def fs (c L : Nat → Nat) (N : Nat) : Nat → Nat → Nat → Nat → Nat
  | 0, _, _, _ => 0
  | d + 1, s, u, 0 => ff (gd c L N d s u) 0 N
  | d + 1, s, u, j + 1 => fs c L N d (nx s (L (ff (gd c L N d s u) 0 N))) (u ||| 2 ^ ff (gd c L N d s u) 0 N) j
theorem sumf_0 {f : Nat → Nat} : ∀ {n : Nat}, sumf f n = 0 ↔ ∀ k, k < n → f k = 0
  | 0 => ⟨fun _ k hk => absurd hk (by omega), fun _ => rfl⟩
  | n + 1 => by
    have ih := sumf_0 (f := f) (n := n)
    unfold sumf
    constructor
    · intro h k hk
      by_cases e : k = n
      · rw [e]; omega
      · exact ih.mp (by omega) k (by omega)
    · intro h
      have := ih.mpr fun k hk => h k (by omega)
      have := h n (by omega)
      omega
theorem gd_and {c L : Nat → Nat} {N d s u i : Nat} (h : gd c L N d s u i = true) : cf c L s u i = true ∧ 0 < hm c L N d (nx s (L i)) (u ||| 2 ^ i) := by
  unfold gd at h
  rw [Bool.and_eq_true, decide_eq_true_iff] at h
  exact h
theorem hm_pos {c L : Nat → Nat} {N d s u : Nat} : 0 < hm c L N (d + 1) s u ↔ ∃ i, i < N ∧ gd c L N d s u i = true := by
  have e : hm c L N (d + 1) s u = sumf (fun i => if cf c L s u i = true then hm c L N d (nx s (L i)) (u ||| 2 ^ i) else 0) N := rfl
  have h0 := sumf_0 (f := fun i => if cf c L s u i = true then hm c L N d (nx s (L i)) (u ||| 2 ^ i) else 0) (n := N)
  constructor
  · intro h
    refine Classical.byContradiction fun q => ?_
    have := h0.mpr fun k hk => by
      by_cases hc : cf c L s u k = true
      · rw [if_pos hc]
        refine Classical.byContradiction fun q2 => q ⟨k, hk, ?_⟩
        unfold gd
        rw [hc, decide_eq_true (by omega)]
        rfl
      · rw [if_neg hc]
    omega
  · rintro ⟨i, hi, hg⟩
    unfold gd at hg
    rw [Bool.and_eq_true, decide_eq_true_iff] at hg
    refine Nat.pos_of_ne_zero fun q => ?_
    rw [e] at q
    have := h0.mp q i hi
    rw [if_pos hg.1] at this
    omega
/-- u holds all but d of the N -/
def us (N d u : Nat) : Prop := u < 2 ^ N ∧ ct (fun i => u.testBit i) N + d = N
theorem us_next {N d u i : Nat} (h : us N (d + 1) u) (hi : i < N) (hb : u.testBit i = false) : us N d (u ||| 2 ^ i) := by
  obtain ⟨h1, h2⟩ := h
  refine ⟨or_lt h1 (pw_lt hi), ?_⟩
  have := ct_new (p := fun k => u.testBit k) (q := fun k => (u ||| 2 ^ i).testBit k) (i := i) (n := N) (fun k _ hk => by rw [Nat.testBit_or, Nat.testBit_two_pow, decide_eq_false (show ¬ i = k from fun e => hk e.symm), Bool.or_false]) hi hb (by rw [Nat.testBit_or, Nat.testBit_two_pow, decide_eq_true rfl, Bool.or_true])
  omega
theorem ct_full {p : Nat → Bool} : ∀ {n : Nat}, ct p n = n ↔ ∀ k, k < n → p k = true
  | 0 => ⟨fun _ k hk => absurd hk (by omega), fun _ => rfl⟩
  | n + 1 => by
    have ih := ct_full (p := p) (n := n)
    have hl := ct_le p n
    unfold ct
    constructor
    · intro h k hk
      cases hp : p n
      · rw [hp] at h
        simp at h
        omega
      · rw [hp, if_pos rfl] at h
        by_cases e : k = n
        · rw [e]; exact hp
        · exact ih.mp (by omega) k (by omega)
    · intro h
      rw [ih.mpr fun k hk => h k (by omega), h n (by omega)]
      rfl
theorem us_full {N d u : Nat} (h : us N d u) : u = 2 ^ N - 1 ↔ d = 0 := by
  obtain ⟨h1, h2⟩ := h
  have hf := ct_full (p := fun i => u.testBit i) (n := N)
  constructor
  · intro e
    have := hf.mpr fun k hk => by rw [e, al_tb, decide_eq_true hk]
    omega
  · intro e
    refine n_ext h1 (by have := pw_pos N; omega) fun i hi => ?_
    rw [al_tb, decide_eq_true hi]
    exact hf.mp (by omega) i hi
/-! the class -/
def LD (M : Mem) (N : Nat) (L : Nat → Nat) : Prop := M 87 2 = nI N ∧ ∀ i, i < N → M 88 i = nI (L i) ∧ L i < 1024
theorem cf_and {c L : Nat → Nat} {s u i : Nat} (h : cf c L s u i = true) : u.testBit i = false ∧ ¬ tk c s (L i) = 0 := by
  unfold cf at h
  rw [Bool.and_eq_true, decide_eq_true_iff, Bool.not_eq_true'] at h
  exact h
/-- the orders that go on with load i: none, if it can't be the next -/
theorem k_thr {M : Mem} {c L : Nat → Nat} {N s u i v : Nat} {self : Int32 → Int32 → Mem → Option Int32} (hV : MV M c) (hL : LD M N L) (hs : sts c s) (hN : N ≤ 6) (hi : i < N) (hself : cf c L s u i = true → self (nI (nx s (L i))) (nI (u ||| 2 ^ i)) M = some (nI v)) : od_ordersThrough self (nI s) (nI u) (nI i) M = some (nI (if cf c L s u i = true then v else 0)) := by
  obtain ⟨l1, l2⟩ := hL.2 i hi
  have ht := tk_le hV.2.2 s (L i)
  have s2 := sts_2048 hV.2.2 hs
  unfold od_ordersThrough
  simp (disch := omega) only [n_lit, n_m31, n_bit, tbI_0, chk_in, n_cl, n_shl1, n_or]
  rw [l1, k_ferry hV hs l2, k_behind s2 (by omega)]
  simp only [bind_s]
  by_cases q : cf c L s u i = true
  · obtain ⟨h1, h2⟩ := cf_and q
    rw [if_pos q, h1, if_pos rfl]
    unfold mI
    rw [if_neg h2, if_neg (show ¬ nI (tk c s (L i)) = -nI 1 from nI_nm (by omega)), hself q]
    rfl
  · rw [if_neg q]
    cases h1 : u.testBit i
    · have h2 : tk c s (L i) = 0 := by
        by_cases e : tk c s (L i) = 0
        · exact e
        · refine absurd ?_ q
          unfold cf
          rw [h1, decide_eq_true e]
          rfl
      rw [if_pos rfl]
      unfold mI
      rw [if_pos h2, if_pos (show (-1 : Int32) = -nI 1 from rfl)]
    · rw [if_neg (by decide)]
theorem kh_L {M : Mem} {c L : Nat → Nat} {N s u d : Nat} {self : Int32 → Int32 → Mem → Option Int32} (hV : MV M c) (hL : LD M N L) (hs : sts c s) (hN : N ≤ 6) (hself : ∀ i, i < N → cf c L s u i = true → self (nI (nx s (L i))) (nI (u ||| 2 ^ i)) M = some (nI (hm c L N d (nx s (L i)) (u ||| 2 ^ i)))) {K : Int32 → Option Int32} : ∀ m k fu, k + m = N → m < fu → od_ordersFrom_L19 self (nI s) (nI u) M K fu (nI (sumf (fun i => if cf c L s u i = true then hm c L N d (nx s (L i)) (u ||| 2 ^ i) else 0) k)) (nI k) = K (nI (hm c L N (d + 1) s u))
  | 0, k, 0, _, hf => absurd hf (by omega)
  | 0, k, fu + 1, hk, _ => by
    rw [od_ordersFrom_L19, hL.1]
    simp (disch := omega) only [n_lit, n_lt, if_neg]
    rw [show k = N by omega]
    rfl
  | m + 1, k, 0, _, hf => absurd hf (by omega)
  | m + 1, k, fu + 1, hk, hf => by
    have ih := kh_L hV hL hs hN hself (K := K) m (k + 1) fu (by omega) (by omega)
    have es : sumf (fun i => if cf c L s u i = true then hm c L N d (nx s (L i)) (u ||| 2 ^ i) else 0) (k + 1) = sumf (fun i => if cf c L s u i = true then hm c L N d (nx s (L i)) (u ||| 2 ^ i) else 0) k + (if cf c L s u k = true then hm c L N d (nx s (L k)) (u ||| 2 ^ k) else 0) := rfl
    rw [od_ordersFrom_L19, hL.1, k_thr hV hL hs hN (by omega) (hself k (by omega)), ← ih, es]
    simp (disch := omega) only [n_lit, n_lt, if_pos, bind_s, n_add]
theorem k_how {c L : Nat → Nat} {N : Nat} {M : Mem} (hV : MV M c) (hL : LD M N L) (hN : N ≤ 6) : ∀ d fu s u, sts c s → us N d u → d < fu → od_ordersFrom fu (nI s) (nI u) M = some (nI (hm c L N d s u)) := by
  intro d
  induction d with
  | zero =>
    intro fu s u hs hu hf
    obtain ⟨fu, rfl⟩ : ∃ f, fu = f + 1 := ⟨fu - 1, by omega⟩
    have e := (us_full hu).mpr rfl
    have hp := pw_pos N
    have hp2 := pw_10 (show N ≤ 10 by omega)
    show od_ordersFrom_S (od_ordersFrom fu) (nI s) (nI u) M = _
    unfold od_ordersFrom_S
    rw [hL.1]
    simp (disch := omega) only [n_lit, n_m31, n_shl1, n_sub]
    rw [if_pos (by rw [e])]
    rfl
  | succ d ih =>
    intro fu s u hs hu hf
    obtain ⟨fu, rfl⟩ : ∃ f, fu = f + 1 := ⟨fu - 1, by omega⟩
    have hp := pw_pos N
    have hp2 := pw_10 (show N ≤ 10 by omega)
    have hul := hu.1
    have hne : ¬ u = 2 ^ N - 1 := fun e => by have := (us_full hu).mp e; omega
    have hw := hV.2.2
    show od_ordersFrom_S (od_ordersFrom fu) (nI s) (nI u) M = _
    unfold od_ordersFrom_S
    rw [hL.1]
    simp (disch := omega) only [n_lit, n_m31, n_shl1, n_sub]
    rw [if_neg (by rw [n_eq (by omega) (by omega)]; exact hne)]
    exact kh_L hV hL hs hN (d := d) (fun i hi hc => by
      obtain ⟨h1, h2⟩ := cf_and hc
      have hn := WR_n hw
      exact ih fu _ _ (nx_lt hw hs ⟨by have := (hL.2 i hi).2; omega, h2⟩) (us_next hu hi h1) (by omega)) (K := fun v => some v) N 0 FU (by omega) (by rw [FUe]; omega)
theorem k_many {c L : Nat → Nat} {N d s : Nat} {M : Mem} (hV : MV M c) (hL : LD M N L) (hN : N ≤ 6) (hs : sts c s) (hu : us N d 0) (hd : d < 12) : od_howMany (nI s) M = some (nI (hm c L N d s 0)) := by
  unfold od_howMany
  rw [show (0 : Int32) = nI 0 from rfl, k_how hV hL hN d FD s 0 hs hu hd, bind_s]
theorem kf_L {c L : Nat → Nat} {N d s u : Nat} {M : Mem} (hV : MV M c) (hL : LD M N L) (hN : N ≤ 6) (hs : sts c s) (hu : us N (d + 1) u) {K : Option Int32} : ∀ m k fu, k + m = N → m < fu → od_firstNext_L2 (nI s) (nI u) M K fu (nI k) = if ff (gd c L N d s u) k m < N then some (nI (ff (gd c L N d s u) k m)) else K
  | 0, k, 0, _, hf => absurd hf (by omega)
  | 0, k, fu + 1, hk, _ => by
    rw [od_firstNext_L2, hL.1]
    simp (disch := omega) only [n_lit, n_lt, if_neg]
    rw [if_neg (show ¬ ff (gd c L N d s u) k 0 < N from show ¬ k < N by omega)]
  | m + 1, k, 0, _, hf => absurd hf (by omega)
  | m + 1, k, fu + 1, hk, hf => by
    have ih := kf_L hV hL hN hs hu (K := K) m (k + 1) fu (by omega) (by omega)
    have hw := hV.2.2
    have hn := WR_n hw
    obtain ⟨l1, l2⟩ := hL.2 k (by omega)
    have ef : ff (gd c L N d s u) k (m + 1) = if gd c L N d s u k = true then k else ff (gd c L N d s u) (k + 1) m := rfl
    have hd : d + 1 ≤ N := by have := hu.2; omega
    have hle := hm_le (c := c) (L := L) hN d (nx s (L k)) (u ||| 2 ^ k)
    have h6 : 6 ^ d ≤ 6 ^ 6 := Nat.pow_le_pow_right (by decide) (by omega)
    have h66 : 6 ^ 6 = 46656 := rfl
    rw [od_firstNext_L2, hL.1, k_thr (v := hm c L N d (nx s (L k)) (u ||| 2 ^ k)) hV hL hs hN (by omega) (fun q => by
      obtain ⟨h1, h2⟩ := cf_and q
      exact k_how hV hL hN d FD _ _ (nx_lt hw hs ⟨by omega, h2⟩) (us_next hu (by omega) h1) (show d < 12 by omega))]
    by_cases q : cf c L s u k = true
    · rw [if_pos q]
      simp (disch := omega) only [n_lit, n_lt, if_pos, bind_s, n_add]
      rw [ih, ef]
      unfold gd
      rw [q, Bool.true_and]
      by_cases q2 : 0 < hm c L N d (nx s (L k)) (u ||| 2 ^ k)
      · rw [if_pos q2, decide_eq_true q2, if_pos rfl, if_pos (by omega)]
      · rw [if_neg q2, decide_eq_false q2]
        rfl
    · rw [if_neg q]
      simp (disch := omega) only [n_lit, n_lt, if_pos, bind_s, n_add]
      rw [if_neg (show ¬ (0 : Nat) < 0 by omega), ih, ef]
      have : gd c L N d s u k = false := by
        unfold gd
        rw [Bool.eq_false_iff.mpr q]
        rfl
      rw [this]
      rfl
theorem k_fnext {c L : Nat → Nat} {N d s u : Nat} {M : Mem} (hV : MV M c) (hL : LD M N L) (hN : N ≤ 6) (hs : sts c s) (hu : us N (d + 1) u) : od_firstNext (nI s) (nI u) M = some (if ff (gd c L N d s u) 0 N < N then nI (ff (gd c L N d s u) 0 N) else -1) := by
  have e := kf_L hV hL hN hs hu (K := some (-1)) N 0 FU (by omega) (by rw [FUe]; omega)
  unfold od_firstNext
  refine Eq.trans e ?_
  split <;> rfl
/-- the class tells the first order -/
theorem ko_L {c L : Nat → Nat} {N kk : Nat} {M : Mem} {p1 : Int32} (hV : MV M c) (hL : LD M N L) (hN : N ≤ 6) {K : Option Int32} : ∀ d pl s u fu, pl + d = N → sts c s → us N d u → d < fu → 0 < hm c L N d s u → pl ≤ kk → kk < 4294967296 → od_first_L8 p1 (nI kk) M K fu (nI s) (nI u) (nI pl) = if kk < N then some (nI (fs c L N d s u (kk - pl))) else K := by
  intro d
  induction d with
  | zero =>
    intro pl s u fu hp hs hu hf h0 hk qk
    obtain ⟨fu, rfl⟩ : ∃ f, fu = f + 1 := ⟨fu - 1, by omega⟩
    rw [od_first_L8, hL.1]
    simp (disch := omega) only [n_lit, n_lt, if_neg]
  | succ d ih =>
    intro pl s u fu hp hs hu hf h0 hk qk
    obtain ⟨fu, rfl⟩ : ∃ f, fu = f + 1 := ⟨fu - 1, by omega⟩
    have hw := hV.2.2
    have hn := WR_n hw
    have s2 := sts_2048 hw hs
    obtain ⟨i, hi, hg⟩ := hm_pos.mp h0
    rcases ff_spec (p := gd c L N d s u) (m := N) (k := 0) with ⟨a, b, _, _⟩ | ⟨_, b⟩
    · rw [Nat.zero_add] at a
      have hb := gd_and b
      obtain ⟨h1, h2⟩ := cf_and hb.1
      obtain ⟨l1, l2⟩ := hL.2 _ a
      rw [od_first_L8, hL.1, k_fnext hV hL hN hs hu, if_pos a]
      simp (disch := omega) only [n_lit, n_lt, if_pos, bind_s]
      by_cases q : pl = kk
      · subst q
        rw [if_pos rfl, if_pos (show pl < N by omega), Nat.sub_self]
        rfl
      · rw [if_neg (show ¬ nI pl = nI kk by rw [n_eq (by omega) qk]; exact q), if_neg (show ¬ nI (ff (gd c L N d s u) 0 N) = -nI 1 from nI_nm (by omega))]
        simp (disch := omega) only [chk_in, n_cl, n_m31, n_shl1, n_or, n_add]
        rw [l1, k_behind s2 (by omega)]
        simp only [bind_s]
        rw [ih (pl + 1) _ _ fu (by omega) (nx_lt hw hs ⟨by omega, h2⟩) (us_next hu a h1) (by omega) hb.2 (by omega) qk]
        have e : kk - pl = (kk - (pl + 1)) + 1 := by omega
        rw [e]
        rfl
    · rw [b i (Nat.zero_le _) (by omega)] at hg
      exact Bool.noConfusion hg
