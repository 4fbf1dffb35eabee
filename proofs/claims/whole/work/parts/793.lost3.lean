/-! lost, out of the tape -/
def TPE (X Y : Mem) (n : Nat) (b : Nat → Nat) : Prop := n ≤ 400 ∧ X 1 1 = nI n ∧ Y 0 6 = nI n ∧ ∀ i, i < n → X 2 i = nI (b i) ∧ Y 4 i = nI (b i) ∧ b i ≤ 255
def GR (n : Nat) (b : Nat → Nat) : Prop := (2 ≤ n ∧ n ≤ 12 ∧ n % 2 = 0) ∧ ∀ i, i < n → 48 ≤ b i ∧ b i ≤ 79
def ldL (b : Nat → Nat) (i : Nat) : Nat := 32 * (b (2 * i + 1) - 48) + (b (2 * i) - 48)
theorem kt_L {n N : Nat} {b : Nat → Nat} (hN : N ≤ 6) (hn : n = 2 * N) {K : Mem → Option (Int32 × Mem)} : ∀ m k fu (M : Mem), k + m = N → m < fu → M 87 2 = nI N → (∀ i, i < n → M 2 i = nI (b i) ∧ b i ≤ 255) → ∃ M', (∀ r i, ¬ r = 88 → M' r i = M r i) ∧ (∀ i, i < k → M' 88 i = M 88 i) ∧ (((∀ i, 2 * k ≤ i → i < n → 48 ≤ b i ∧ b i ≤ 79) ∧ od_take_L40 K fu (nI k) M = K M' ∧ ∀ i, k ≤ i → i < N → M' 88 i = nI (ldL b i)) ∨ (¬ (∀ i, 2 * k ≤ i → i < n → 48 ≤ b i ∧ b i ≤ 79) ∧ od_take_L40 K fu (nI k) M = some (nI 0, M')))
  | 0, k, 0, M, _, hf => absurd hf (by omega)
  | 0, k, fu + 1, M, hk, _ => fun h2 hb => by
    refine ⟨M, fun _ _ _ => rfl, fun _ _ => rfl, Or.inl ⟨fun i h1 h3 => absurd h3 (by omega), ?_, fun i h1 h3 => absurd h3 (by omega)⟩⟩
    rw [od_take_L40, h2]
    simp (disch := omega) only [n_lit, n_lt, if_neg]
  | m + 1, k, 0, M, _, hf => absurd hf (by omega)
  | m + 1, k, fu + 1, M, hk, hf => fun h2 hb => by
    obtain ⟨a1, a2⟩ := hb (2 * k) (by omega)
    obtain ⟨b1, b2⟩ := hb (2 * k + 1) (by omega)
    have stp : od_take_L40 K (fu + 1) (nI k) M = if nI (b (2 * k)) - nI 48 < nI 0 then some (nI 0, M) else if nI (b (2 * k)) - nI 48 < nI 32 then (if nI (b (2 * k + 1)) - nI 48 < nI 0 then some (nI 0, M) else if nI (b (2 * k + 1)) - nI 48 < nI 32 then od_take_L40 K fu (nI (k + 1)) (wr M 88 k (((nI (b (2 * k + 1)) - nI 48) <<< nI 5) ||| (nI (b (2 * k)) - nI 48))) else some (nI 0, M)) else some (nI 0, M) := by
      rw [od_take_L40, h2]
      simp (disch := omega) only [n_lit, n_lt, if_pos, n_mul, n_add, chk_in, n_cl, lt1_ap, a1, b1, n_m31]
    rw [stp]
    by_cases c1 : b (2 * k) < 48
    · refine ⟨M, fun _ _ _ => rfl, fun _ _ => rfl, Or.inr ⟨fun h => by have := h (2 * k) (by omega) (by omega); omega, ?_⟩⟩
      rw [if_pos (n_sneg (by omega) c1)]
    · rw [n_sub (by omega)]
      simp (disch := omega) only [n_lt, if_neg]
      by_cases c2 : b (2 * k) - 48 < 32
      · rw [if_pos c2]
        by_cases c3 : b (2 * k + 1) < 48
        · refine ⟨M, fun _ _ _ => rfl, fun _ _ => rfl, Or.inr ⟨fun h => by have := h (2 * k + 1) (by omega) (by omega); omega, ?_⟩⟩
          rw [if_pos (n_sneg (by omega) c3)]
        · rw [n_sub (by omega)]
          simp (disch := omega) only [n_lt, if_neg]
          by_cases c4 : b (2 * k + 1) - 48 < 32
          · rw [if_pos c4]
            have e := Nat.two_pow_add_eq_or_of_lt (show b (2 * k) - 48 < 2 ^ 5 by omega) (b (2 * k + 1) - 48)
            rw [show 2 ^ 5 = 32 from rfl] at e
            have ew : ((nI (b (2 * k + 1) - 48)) <<< nI 5) ||| nI (b (2 * k) - 48) = nI (ldL b k) := by
              rw [n_shl _ (by omega) (by omega), n_or, show 2 ^ 5 = 32 from rfl, Nat.mul_comm (b (2 * k + 1) - 48) 32, ← e]
              rfl
            rw [ew]
            obtain ⟨M', i1, i2, i3⟩ := kt_L hN hn (b := b) (K := K) m (k + 1) fu (wr M 88 k (nI (ldL b k))) (by omega) (by omega) (by rw [wr_ne (by omega), h2]) (fun i hi => by rw [wr_ne (by omega)]; exact hb i hi)
            refine ⟨M', fun r i hr => by rw [i1 r i hr, wr_ne (by omega)], fun i hi => by rw [i2 i (by omega), wr_ne (by omega)], ?_⟩
            rcases i3 with ⟨j1, j2, j3⟩ | ⟨j1, j2⟩
            · refine Or.inl ⟨fun i h1 h3 => ?_, j2, fun i h1 h3 => ?_⟩
              · by_cases e1 : i = 2 * k
                · rw [e1]; omega
                · by_cases e2 : i = 2 * k + 1
                  · rw [e2]; omega
                  · exact j1 i (by omega) h3
              · by_cases e1 : i = k
                · rw [e1, i2 k (by omega), wr_eq]
                · exact j3 i (by omega) h3
            · exact Or.inr ⟨fun h => j1 fun i h1 h3 => h i (by omega) h3, j2⟩
          · refine ⟨M, fun _ _ _ => rfl, fun _ _ => rfl, Or.inr ⟨fun h => by have := h (2 * k + 1) (by omega) (by omega); omega, ?_⟩⟩
            rw [if_neg c4]
      · refine ⟨M, fun _ _ _ => rfl, fun _ _ => rfl, Or.inr ⟨fun h => by have := h (2 * k) (by omega) (by omega); omega, ?_⟩⟩
        rw [if_neg c2]
theorem k_takeRow {M : Mem} {n : Nat} {b : Nat → Nat} (h1 : M 1 1 = nI n) (hn : n ≤ 400) (hb : ∀ i, i < n → M 2 i = nI (b i) ∧ b i ≤ 255) : ∃ r M', od_take M = some (bI r, M') ∧ (r = true → GR n b ∧ LD M' (n / 2) (ldL b)) ∧ (r = false → ¬ GR n b) ∧ (∀ q i, ¬ q = 87 → ¬ q = 88 → M' q i = M q i) := by
  unfold od_take
  rw [h1]
  simp (disch := omega) only [n_lit, n_lt, n_rem, n_eq, n_div, lt1_ap]
  by_cases c1 : n < 2
  · exact ⟨false, M, by rw [if_pos c1]; rfl, fun e => Bool.noConfusion e, fun _ h => by have := h.1; omega, fun _ _ _ _ => rfl⟩
  · rw [if_neg c1]
    by_cases c2 : 12 < n
    · exact ⟨false, M, by rw [if_pos c2]; rfl, fun e => Bool.noConfusion e, fun _ h => by have := h.1; omega, fun _ _ _ _ => rfl⟩
    · rw [if_neg c2]
      by_cases c3 : n % 2 = 0
      · rw [if_pos c3]
        obtain ⟨M', i1, i2, i3⟩ := kt_L (n := n) (N := n / 2) (b := b) (by omega) (by omega) (K := fun M6 => some (nI 1, M6)) (n / 2) 0 FU (wr M 87 2 (nI (n / 2))) (by omega) (by rw [FUe]; omega) wr_eq (fun i hi => by rw [wr_ne (by omega)]; exact hb i hi)
        have fr : ∀ q i, ¬ q = 87 → ¬ q = 88 → M' q i = M q i := fun q i a d => by rw [i1 q i d, wr_ne (by omega)]
        rcases i3 with ⟨j1, j2, j3⟩ | ⟨j1, j2⟩
        · have hgr : GR n b := ⟨by omega, fun i hi => j1 i (Nat.zero_le _) hi⟩
          refine ⟨true, M', j2, fun _ => ⟨hgr, by rw [i1 _ _ (by omega), wr_eq], fun i hi => ⟨j3 i (Nat.zero_le _) hi, ?_⟩⟩, fun e => Bool.noConfusion e, fr⟩
          have g1 := hgr.2 (2 * i) (by omega)
          have g2 := hgr.2 (2 * i + 1) (by omega)
          unfold ldL
          omega
        · exact ⟨false, M', j2, fun e => Bool.noConfusion e, fun _ h => j1 fun i _ hi => h.2 i hi, fr⟩
      · rw [if_neg c3]
        exact ⟨false, M, rfl, fun e => Bool.noConfusion e, fun _ h => by have := h.1; omega, fun _ _ _ _ => rfl⟩
def okB (b : Nat → Nat) (i : Nat) : Bool := decide (48 ≤ b i) && decide (b i ≤ 79)
theorem rt4_L {Y : Mem} {n : Nat} {b : Nat → Nat} {p1 : Int32} (hn : n ≤ 400) (hb : ∀ i, i < n → Y 4 i = nI (b i) ∧ b i ≤ 255) {K : Int32 → Option (Int32 × Mem)} : ∀ m k f fu, k + m = n → m < fu → md_lost_L40 p1 (nI n) Y K fu (bI f) (nI k) = K (bI (f && allF (okB b) k m))
  | 0, k, f, 0, _, hf => absurd hf (by omega)
  | 0, k, f, fu + 1, hk, _ => by
    rw [md_lost_L40]
    simp (disch := omega) only [n_lit, n_lt, if_neg]
    rw [show allF (okB b) k 0 = true from rfl, Bool.and_true]
  | m + 1, k, f, 0, _, hf => absurd hf (by omega)
  | m + 1, k, f, fu + 1, hk, hf => by
    obtain ⟨a1, a2⟩ := hb k (by omega)
    rw [md_lost_L40]
    simp (disch := omega) only [n_lit, n_lt, if_pos, bI_0, chk_in, n_cl, n_add]
    cases f
    · rw [if_pos rfl, Bool.false_and]
    · rw [if_neg (by decide), Bool.true_and, a1]
      have hin : md_isIn (nI (b k)) (nI 48) (nI 79) Y = some (bI (okB b k)) := by
        unfold md_isIn okB
        simp (disch := omega) only [n_lit, n_lt]
        by_cases c1 : b k < 48
        · rw [if_pos c1, decide_eq_false (by omega)]; rfl
        · rw [if_neg c1, decide_eq_true (show 48 ≤ b k by omega)]
          by_cases c2 : 79 < b k
          · rw [if_pos c2, decide_eq_false (by omega)]; rfl
          · rw [if_neg c2, decide_eq_true (show b k ≤ 79 by omega)]; rfl
      rw [hin]
      simp only [bind_s]
      rw [rt4_L hn hb (p1 := p1) (K := K) m (k + 1) (okB b k) fu (by omega) (by omega)]
      rfl
theorem rl9_L {N n : Nat} {b : Nat → Nat} {p1 : Int32} (hN : N ≤ 6) (hn : n = 2 * N) (hg : ∀ i, i < n → 48 ≤ b i ∧ b i ≤ 79) {K : Mem → Option (Int32 × Mem)} : ∀ m k fu (M : Mem), k + m = N → m < fu → M 0 21 = nI N → (∀ i, i < n → M 4 i = nI (b i)) → ∃ M', md_lost_L103 p1 K fu (nI k) M = K M' ∧ (∀ i, k ≤ i → i < N → M' 9 i = nI (ldL b i)) ∧ (∀ r i, ¬ (r = 9 ∧ k ≤ i) → M' r i = M r i)
  | 0, k, 0, M, _, hf => absurd hf (by omega)
  | 0, k, fu + 1, M, hk, _ => fun h2 hb => by
    refine ⟨M, ?_, fun i h1 h3 => absurd h3 (by omega), fun _ _ _ => rfl⟩
    rw [md_lost_L103, h2]
    simp (disch := omega) only [n_lit, n_lt, if_neg]
  | m + 1, k, 0, M, _, hf => absurd hf (by omega)
  | m + 1, k, fu + 1, M, hk, hf => fun h2 hb => by
    have g1 := hg (2 * k) (by omega)
    have g2 := hg (2 * k + 1) (by omega)
    obtain ⟨M', i1, i2, i3⟩ := rl9_L hN hn hg (p1 := p1) (K := K) m (k + 1) fu (wr M 9 k (nI (ldL b k))) (by omega) (by omega) (by rw [wr_ne (by omega), h2]) (fun i hi => by rw [wr_ne (by omega)]; exact hb i hi)
    refine ⟨M', ?_, fun i h1 h3 => ?_, fun r i hr => by rw [i3 r i (by omega), wr_ne (by omega)]⟩
    · rw [md_lost_L103, h2, ← i1]
      simp (disch := omega) only [n_lit, n_lt, if_pos, n_mul, n_add, chk_in, n_cl, lt1_ap]
      rw [hb (2 * k) (by omega), hb (2 * k + 1) (by omega), n_sub (by omega), n_sub (by omega), n_mul, n_add, Nat.add_comm (b (2 * k) - 48)]
      rfl
    · by_cases e : i = k
      · subst e
        rw [i3 _ _ (by omega), wr_eq]
      · exact i2 i (by omega) h3
theorem m_lost {T n : Nat} {X Y : Mem} {c b : Nat → Nat} (h : SV T X Y c) (hT : T ≤ 520) (hP : TPE X Y n b) (p : Int32) : ∃ e v X' u Y', rf_lost p X = some (e, v, X') ∧ md_lost p Y = some (u, Y') ∧ ((e = 0 ∧ Y' 0 0 = 0 ∧ v = u) ∨ (¬ e = 0 ∧ e = 1 ∧ Y' 0 0 = 1)) ∧ LV X' c ∧ Z0 X' ∧ X' 1 1 = nI 0 ∧ Y' 0 6 = nI 0 ∧ (∀ r i, r < 75 → ¬ (r = 1 ∧ i = 1) → X' r i = X r i) ∧ (∀ r i, ¬ (r = 0 ∧ (i = 0 ∨ i = 6 ∨ i = 17 ∨ i = 21 ∨ i = 22)) → ¬ r = 9 → ¬ r = 10 → ¬ r = 11 → Y' r i = Y r i) := by
  have hLV := SV_LV h hT
  obtain ⟨hR, hB, hw, hb, hY, hz⟩ := id h
  obtain ⟨hn, t1, t2, t3⟩ := hP
  have h10 := pw_10 (WR_n hw)
  have hs0 := s0_sts hb
  have s2 := sts_2048 hw hs0
  have h3 := hb.2.1
  have h4 : c 4 < 2 ^ c 1 := hb.2.2.1
  obtain ⟨r, X1, e1, e2, e3, e4⟩ := k_takeRow t1 hn fun i hi => ⟨(t3 i hi).1, (t3 i hi).2.2⟩
  have hL3 : LV (wr X1 1 1 (nI 0)) c := ⟨XR_cong hR fun q i _ _ => by rw [wr_ne (by omega), e4 q i (by omega) (by omega)], XB_cong hB fun q i _ _ => by rw [wr_ne (by omega), e4 q i (by omega) (by omega)], hLV.2.2⟩
  have hz3 : Z0 (wr X1 1 1 (nI 0)) := ⟨by rw [wr_ne (by omega), e4 _ _ (by omega) (by omega)]; exact hz.1, by rw [wr_ne (by omega), e4 _ _ (by omega) (by omega)]; exact hz.2.1, by rw [wr_ne (by omega), e4 _ _ (by omega) (by omega)]; exact hz.2.2⟩
  have fr3 : ∀ q i, q < 75 → ¬ (q = 1 ∧ i = 1) → wr X1 1 1 (nI 0) q i = X q i := fun q i hq hq2 => by rw [wr_ne hq2, e4 q i (by omega) (by omega)]
  have hY6 : EY (wr Y 0 6 (nI 0)) c := EY_fr hY fun i => wr_ne (by omega)
  have hb6 : ∀ i, i < n → wr Y 0 6 (nI 0) 4 i = nI (b i) ∧ b i ≤ 255 := fun i hi => by rw [wr_ne (by omega)]; exact (t3 i hi).2
  have h36 : ∀ f, md_lost_J36 p (nI n) (bI f) (wr Y 0 6 (nI 0)) = md_lost_J71 p (nI n) (bI (f && allF (okB b) 0 n)) (wr Y 0 6 (nI 0)) := fun f => rt4_L hn hb6 (K := fun v3_3 => md_lost_J71 p (nI n) (v3_3) (wr Y 0 6 (nI 0))) n 0 f FU (by omega) (by rw [FUe]; omega)
  have hall : allF (okB b) 0 n = true ↔ ∀ i, i < n → 48 ≤ b i ∧ b i ≤ 79 := by
    rw [allF_iff]
    constructor
    · intro hh i hi
      have := hh i (Nat.zero_le _) (by omega)
      unfold okB at this
      rw [Bool.and_eq_true, decide_eq_true_iff, decide_eq_true_iff] at this
      exact this
    · intro hh i _ hi
      have := hh i (by omega)
      unfold okB
      rw [decide_eq_true this.1, decide_eq_true this.2]
      rfl
  have hmd : md_lost p Y = md_lost_J71 p (nI n) (bI ((decide (2 ≤ n ∧ n ≤ 12 ∧ n % 2 = 0) && decide (¬ p < -1)) && allF (okB b) 0 n)) (wr Y 0 6 (nI 0)) := by
    rw [← h36]
    unfold md_lost md_lost_J35 md_isIn
    rw [t2]
    simp (disch := omega) only [n_lit, lt1_ap, n_lt, n_rem, n_eq]
    by_cases c1 : n < 2
    · rw [if_pos c1, decide_eq_false (show ¬ (2 ≤ n ∧ n ≤ 12 ∧ n % 2 = 0) by omega), bind_s, if_pos rfl]
      rfl
    · rw [if_neg c1]
      by_cases c2 : 12 < n
      · rw [if_pos c2, decide_eq_false (show ¬ (2 ≤ n ∧ n ≤ 12 ∧ n % 2 = 0) by omega), bind_s, if_pos rfl]
        rfl
      · rw [if_neg c2, bind_s, if_neg (show ¬ nI 1 = nI 0 by decide)]
        by_cases c3 : n % 2 = 0
        · rw [if_pos c3, decide_eq_true (show 2 ≤ n ∧ n ≤ 12 ∧ n % 2 = 0 by omega)]
          by_cases c4 : p < -nI 1
          · rw [if_pos c4, decide_eq_false (fun e => e c4)]
            rfl
          · rw [if_neg c4, decide_eq_true c4]
            rfl
        · rw [if_neg c3, decide_eq_false (show ¬ (2 ≤ n ∧ n ≤ 12 ∧ n % 2 = 0) by omega)]
          rfl
  have bad : (r = false ∨ p < -1) → ∃ e v X' u Y', rf_lost p X = some (e, v, X') ∧ md_lost p Y = some (u, Y') ∧ ((e = 0 ∧ Y' 0 0 = 0 ∧ v = u) ∨ (¬ e = 0 ∧ e = 1 ∧ Y' 0 0 = 1)) ∧ LV X' c ∧ Z0 X' ∧ X' 1 1 = nI 0 ∧ Y' 0 6 = nI 0 ∧ (∀ r i, r < 75 → ¬ (r = 1 ∧ i = 1) → X' r i = X r i) ∧ (∀ r i, ¬ (r = 0 ∧ (i = 0 ∨ i = 6 ∨ i = 17 ∨ i = 21 ∨ i = 22)) → ¬ r = 9 → ¬ r = 10 → ¬ r = 11 → Y' r i = Y r i) := fun hbad => by
    refine ⟨1, 0, wr X1 1 1 (nI 0), 0, wr (wr Y 0 6 (nI 0)) 0 0 1, ?_, ?_, Or.inr ⟨by decide, rfl, wr_eq⟩, hL3, hz3, wr_eq, by rw [wr_ne (by omega), wr_eq], fr3, fun q i a _ _ _ => by rw [wr_ne (by omega), wr_ne (by omega)]⟩
    · unfold rf_lost
      rw [e1]
      unfold bnd2
      dsimp only
      rw [lt1_ap]
      rcases hbad with rfl | hp
      · rw [if_pos (show bI false = 0 from rfl)]
        rfl
      · by_cases q : bI r = 0
        · rw [if_pos q]; rfl
        · rw [if_neg q, if_pos hp]; rfl
    · have : ((decide (2 ≤ n ∧ n ≤ 12 ∧ n % 2 = 0) && decide (¬ p < -1)) && allF (okB b) 0 n) = false := by
        rcases hbad with hr | hp
        · refine Bool.eq_false_iff.mpr fun e => e3 hr ?_
          rw [Bool.and_eq_true, Bool.and_eq_true, decide_eq_true_iff] at e
          exact ⟨e.1.1, hall.mp e.2⟩
        · rw [decide_eq_false (p := ¬ p < -1) (fun e => e hp), Bool.and_false, Bool.false_and]
      rw [hmd, this]
      rfl
  cases hr : r
  · exact bad (Or.inl hr)
  · by_cases hp : p < -1
    · exact bad (Or.inr hp)
    · obtain ⟨hgr, hLD⟩ := e2 hr
      have hN : n / 2 ≤ 6 := by have := hgr.1; omega
      have hn2 : n = 2 * (n / 2) := by have := hgr.1; omega
      obtain ⟨X4, p1, p2, p3, p4, p5⟩ := k_prepare hL3 hz3
      have hLD4 : LD X4 (n / 2) (ldL b) := ⟨by rw [p5 _ _ (by omega), wr_ne (by omega)]; exact hLD.1, fun i hi => by rw [p5 _ _ (by omega), wr_ne (by omega)]; exact hLD.2 i hi⟩
      have hus : us (n / 2) (n / 2) 0 := ⟨pw_pos _, by
        have : ∀ k, ct (fun i => (0 : Nat).testBit i) k = 0 := fun k => by
          induction k with
          | zero => rfl
          | succ k ih =>
            show ct _ k + (if (0 : Nat).testBit k then 1 else 0) = 0
            rw [ih, Nat.zero_testBit]
            rfl
        rw [this]
        omega⟩
      have hle := hm_le (c := c) (L := ldL b) hN (n / 2) (2 * c 4 + c 3) 0
      have h6 : 6 ^ (n / 2) ≤ 6 ^ 6 := Nat.pow_le_pow_right (by decide) hN
      have h66 : 6 ^ 6 = 46656 := rfl
      obtain ⟨Y9, a1, a2, a3⟩ := rl9_L (N := n / 2) (n := n) (b := b) (p1 := p) hN hn2 hgr.2 (K := fun M9 => ((md_stateNow (wr M9 0 22 (nI 0))).bind fun v11 => (md_tellsOrders FD (nI 0) (nI 0) (v11) (wr M9 0 22 (nI 0))).bind fun M12 => (if p = (-nI 1) then some ((M12 0 22), M12) else (if nI 0 < (M12 0 22) then (if p < (M12 0 21) then chk (inb p 6) (some ((M12 11 p.toNatClampNeg), M12)) else some ((-nI 1), M12)) else some ((-nI 1), M12))))) (n / 2) 0 FU (wr (wr (wr Y 0 6 (nI 0)) 0 0 (nI 0)) 0 21 (nI (n / 2))) (by omega) (by rw [FUe]; omega) wr_eq (fun i hi => by rw [wr_ne (by omega), wr_ne (by omega)]; exact (hb6 i hi).1)
      have hE10 : EY (wr Y9 0 22 (nI 0)) c := EY_fr hY6 fun i => by rw [wr_ne (by omega), a3 _ _ (by omega), wr_ne (by omega), wr_ne (by omega)]
      have hLR10 : LR (wr Y9 0 22 (nI 0)) (n / 2) (ldL b) := ⟨by rw [wr_ne (by omega), a3 _ _ (by omega), wr_eq], fun i hi => by rw [wr_ne (by omega)]; exact ⟨a2 i (Nat.zero_le _) hi, (hLD.2 i hi).2⟩⟩
      obtain ⟨Y12, d1, f1, f2, f3, f4, f5, f6, f7⟩ := r_tells hw hb hT hN (n / 2) FD 0 0 (2 * c 4 + c 3) 0 (wr Y9 0 22 (nI 0)) (show n / 2 < 12 by omega) (by omega) hus hs0 hE10 hLR10 wr_eq (by omega)
      have frY : ∀ q i, ¬ (q = 0 ∧ (i = 0 ∨ i = 6 ∨ i = 17 ∨ i = 21 ∨ i = 22)) → ¬ q = 9 → ¬ q = 10 → ¬ q = 11 → Y12 q i = Y q i := fun q i a b d e => by rw [f7 q i (by omega) d e, wr_ne (by omega), a3 q i (by omega), wr_ne (by omega), wr_ne (by omega), wr_ne (by omega)]
      have hres : md_lost p Y = (if p = (-nI 1) then some ((Y12 0 22), Y12) else (if nI 0 < (Y12 0 22) then (if p < (Y12 0 21) then chk (inb p 6) (some ((Y12 11 p.toNatClampNeg), Y12)) else some ((-nI 1), Y12)) else some ((-nI 1), Y12))) := by
        rw [hmd, show ((decide (2 ≤ n ∧ n ≤ 12 ∧ n % 2 = 0) && decide (¬ p < -1)) && allF (okB b) 0 n) = true by rw [decide_eq_true hgr.1, decide_eq_true hp, hall.mpr hgr.2]; rfl]
        unfold md_lost_J71
        rw [if_neg (by decide)]
        unfold md_lost_J81
        simp only [n_lit, lt1_ap]
        rw [wr_eq, if_neg (show ¬ nI 0 < nI 0 from Int32.lt_irrefl), n_div (by omega) (by omega) (by omega)]
        refine a1.trans ?_
        unfold md_stateNow
        simp only [n_lit, bind_s]
        rw [EY_n hE10 (i := 4) (by omega) (by omega), EY_n hE10 (i := 3) (by omega) (by omega), n_mul, n_add, d1]
        simp only [bind_s]
      have hY00 : Y12 0 0 = 0 := by rw [f7 _ _ (by omega) (by omega) (by omega), wr_ne (by omega), a3 _ _ (by omega), wr_ne (by omega), wr_eq]; rfl
      have hY06 : Y12 0 6 = nI 0 := by rw [f7 _ _ (by omega) (by omega) (by omega), wr_ne (by omega), a3 _ _ (by omega), wr_ne (by omega), wr_ne (by omega), wr_eq]
      have hrf : rf_lost p X = (if p = -1 then (od_howMany (nI (2 * c 4 + c 3)) X4).bind fun v8 => some (0, v8, X4) else (od_first (nI (2 * c 4 + c 3)) p X4).bind fun v6 => some (0, v6, X4)) := by
        unfold rf_lost
        rw [e1]
        unfold bnd2
        dsimp only
        rw [lt1_ap, hr, if_neg (show ¬ bI true = 0 by decide), if_neg hp, show wr X1 1 1 (0 : Int32) = wr X1 1 1 (nI 0) from rfl, p1, bind_s, k_state p3.2.1 h3 (by omega), bind_s, bind_s]
      have key : ∀ v, rf_lost p X = some (0, v, X4) → md_lost p Y = some (v, Y12) → ∃ e v X' u Y', rf_lost p X = some (e, v, X') ∧ md_lost p Y = some (u, Y') ∧ ((e = 0 ∧ Y' 0 0 = 0 ∧ v = u) ∨ (¬ e = 0 ∧ e = 1 ∧ Y' 0 0 = 1)) ∧ LV X' c ∧ Z0 X' ∧ X' 1 1 = nI 0 ∧ Y' 0 6 = nI 0 ∧ (∀ r i, r < 75 → ¬ (r = 1 ∧ i = 1) → X' r i = X r i) ∧ (∀ r i, ¬ (r = 0 ∧ (i = 0 ∨ i = 6 ∨ i = 17 ∨ i = 21 ∨ i = 22)) → ¬ r = 9 → ¬ r = 10 → ¬ r = 11 → Y' r i = Y r i) := fun v g1 g2 => ⟨0, v, X4, v, Y12, g1, g2, Or.inl ⟨rfl, hY00, rfl⟩, p3, p4, by rw [p5 _ _ (by omega), wr_eq], hY06, fun q i hq hq2 => by rw [p5 q i (by omega), fr3 q i hq hq2], frY⟩
      by_cases hm1 : p = -1
      · refine key (nI (hm c (ldL b) (n / 2) (n / 2) (2 * c 4 + c 3) 0)) ?_ ?_
        · rw [hrf, if_pos hm1, k_many p2 hLD4 hN hs0 hus (show n / 2 < 12 by omega), bind_s]
        · rw [hres, if_pos (show p = -nI 1 from hm1), f3, Nat.zero_add]
      · obtain ⟨kk, hkk, rfl⟩ : ∃ k : Nat, k < 2147483648 ∧ p = nI k := by
          have h5 : ¬ p < 0 := fun e => by
            rw [Int32.lt_iff_toInt_lt] at e hp
            have a0 : (0 : Int32).toInt = 0 := rfl
            have a1 : (-1 : Int32).toInt = -1 := rfl
            have : p.toInt = -1 := by omega
            exact hm1 (Int32.toInt_inj.mp (this.trans a1.symm))
          obtain ⟨j, hj, e⟩ := nI_of h5
          exact ⟨j, by omega, e⟩
        have hfirst : ∀ K : Option Int32, od_first_L8 (nI (2 * c 4 + c 3)) (nI kk) X4 K FU (nI (2 * c 4 + c 3)) (nI 0) (nI 0) = if 0 < hm c (ldL b) (n / 2) (n / 2) (2 * c 4 + c 3) 0 then (if kk < n / 2 then some (nI (fs c (ldL b) (n / 2) (n / 2) (2 * c 4 + c 3) 0 kk)) else K) else some (-1) := fun K => by
          by_cases q : 0 < hm c (ldL b) (n / 2) (n / 2) (2 * c 4 + c 3) 0
          · rw [if_pos q]
            exact ko_L p2 hLD4 hN (K := K) (n / 2) 0 (2 * c 4 + c 3) 0 FU (by omega) hs0 hus (by rw [FUe]; omega) q (Nat.zero_le _) (by omega)
          · rw [if_neg q]
            have e9 : FU = 999999 + 1 := rfl
            obtain ⟨d, hd⟩ : ∃ d, n / 2 = d + 1 := ⟨n / 2 - 1, by have := hgr.1; omega⟩
            have hus' : us (n / 2) (d + 1) 0 := hd ▸ hus
            have hff : ¬ ff (gd c (ldL b) (n / 2) d (2 * c 4 + c 3) 0) 0 (n / 2) < n / 2 := fun e => by
              rcases ff_spec (p := gd c (ldL b) (n / 2) d (2 * c 4 + c 3) 0) (m := n / 2) (k := 0) with ⟨a, b', _⟩ | ⟨a, _⟩
              · refine q ?_
                have := hm_pos.mpr ⟨_, e, b'⟩
                rw [← hd] at this
                exact this
              · omega
            rw [e9, od_first_L8, hLD4.1, k_fnext p2 hLD4 hN hs0 hus', if_neg hff]
            simp (disch := omega) only [n_lt, if_pos, bind_s]
            by_cases q2 : nI 0 = nI kk
            · rw [if_pos q2]
            · rw [if_neg q2]
              exact if_pos trivial
        have h22 : Y12 0 22 = nI (hm c (ldL b) (n / 2) (n / 2) (2 * c 4 + c 3) 0) := by rw [f3, Nat.zero_add]
        have h21 : Y12 0 21 = nI (n / 2) := f2.1
        refine key (if 0 < hm c (ldL b) (n / 2) (n / 2) (2 * c 4 + c 3) 0 then (if kk < n / 2 then nI (fs c (ldL b) (n / 2) (n / 2) (2 * c 4 + c 3) 0 kk) else -1) else -1) ?_ ?_
        · rw [hrf, if_neg hm1]
          unfold od_first
          rw [show (0 : Int32) = nI 0 from rfl, hfirst]
          by_cases q : 0 < hm c (ldL b) (n / 2) (n / 2) (2 * c 4 + c 3) 0
          · rw [if_pos q, if_pos q]
            by_cases q2 : kk < n / 2
            · rw [if_pos q2, if_pos q2, bind_s]
            · rw [if_neg q2, if_neg q2, bind_s]
          · rw [if_neg q, if_neg q, bind_s]
        · rw [hres, if_neg (show ¬ nI kk = -nI 1 from hm1), h22, h21]
          simp (disch := omega) only [n_lt]
          by_cases q : 0 < hm c (ldL b) (n / 2) (n / 2) (2 * c 4 + c 3) 0
          · rw [if_pos q, if_pos q]
            by_cases q2 : kk < n / 2
            · rw [if_pos q2, if_pos q2, chk_in (by omega) (by omega), n_cl (by omega)]
              have := (f6 rfl q).2 kk q2
              rw [Nat.zero_add] at this
              rw [this]
            · rw [if_neg q2, if_neg q2]
              rfl
          · rw [if_neg q, if_neg q]
            rfl
