/-! moves of a state: the class lists them, the reference tries them -/
theorem sd_div (a b : Nat) : sd a b / 2 = sd (a / 2) (b / 2) := by unfold sd; rw [Nat.xor_div_two, Nat.and_div_two]
theorem sd_half {x h : Nat} : sd x h = 0 ↔ sd (x / 2) (h / 2) = 0 ∧ x % 2 ≤ h % 2 := by
  rw [← sd_div]
  have h1 : (sd x h) % 2 = 1 ↔ ¬ ((x % 2 = 1) ↔ (x % 2 = 1 ∧ h % 2 = 1)) := by
    unfold sd
    rw [Nat.xor_mod_two_eq_one, Nat.and_mod_two_eq_one]
  omega
theorem and_half (a b : Nat) : (a &&& b) / 2 = a / 2 &&& b / 2 := Nat.and_div_two
theorem and_odd (a b : Nat) : (a &&& b) % 2 = 1 ↔ a % 2 = 1 ∧ b % 2 = 1 := Nat.and_mod_two_eq_one
theorem sd_le {x h : Nat} (q : sd x h = 0) : x ≤ h := by
  have h1 : x = h &&& x := Nat.eq_of_testBit_eq fun i => by
    rw [Nat.testBit_and]
    cases e : x.testBit i
    · rw [Bool.and_false]
    · rw [sd_0.mp q i e]; rfl
  rw [h1]
  exact Nat.and_le_left
/-- how many subsets are below -/
def rk : Nat → Nat → Nat → Nat
  | 0, _, _ => 0
  | m + 1, h, x => if h % 2 = 1 then 2 * rk m (h / 2) (x / 2) + x % 2 else rk m (h / 2) (x / 2)
def pc : Nat → Nat → Nat
  | 0, _ => 0
  | m + 1, h => pc m (h / 2) + h % 2
theorem pc_le : ∀ m h, pc m h ≤ m
  | 0, _ => Nat.le_refl _
  | m + 1, h => by
    have := pc_le m (h / 2)
    unfold pc
    omega
theorem low_sub : ∀ m V h x, h < 2 ^ m → m ≤ V → sd x h = 0 → (2 ^ V + x - h - 1) &&& h = x
  | 0, V, h, x, hh, _, hs => by
    have h0 : h = 0 := by omega
    have := sd_le hs
    rw [h0, Nat.and_zero]
    omega
  | m + 1, V, h, x, hh, hV, hs => by
    obtain ⟨V, rfl⟩ : ∃ W, V = W + 1 := ⟨V - 1, by omega⟩
    have e2 : 2 ^ (V + 1) = 2 * 2 ^ V := by rw [Nat.pow_succ]; omega
    have e3 : 2 ^ (m + 1) = 2 * 2 ^ m := by rw [Nat.pow_succ]; omega
    have hp := pw_le (show m ≤ V by omega)
    obtain ⟨s1, s2⟩ := sd_half.mp hs
    have l1 := sd_le hs
    have l2 := sd_le s1
    have ih := low_sub m V (h / 2) (x / 2) (by omega) (by omega) s1
    have d1 := and_half (2 ^ (V + 1) + x - h - 1) h
    have d2 := and_odd (2 ^ (V + 1) + x - h - 1) h
    have d3 : (2 ^ (V + 1) + x - h - 1) / 2 = 2 ^ V + x / 2 - h / 2 - 1 := by omega
    rw [d3, ih] at d1
    omega
theorem nxt_sub : ∀ m V h x, h < 2 ^ m → m ≤ V → sd x h = 0 → (x = h → rk m h x + 1 = 2 ^ pc m h) ∧ (¬ x = h → sd ((2 ^ V + x - h) &&& h) h = 0 ∧ x < ((2 ^ V + x - h) &&& h) ∧ (∀ k, sd k h = 0 → x < k → ((2 ^ V + x - h) &&& h) ≤ k) ∧ rk m h ((2 ^ V + x - h) &&& h) = rk m h x + 1 ∧ rk m h x + 1 < 2 ^ pc m h)
  | 0, V, h, x, hh, _, hs => by
    have := sd_le hs
    refine ⟨fun _ => rfl, fun q => absurd (show x = h by omega) q⟩
  | m + 1, V, h, x, hh, hV, hs => by
    obtain ⟨V, rfl⟩ : ∃ W, V = W + 1 := ⟨V - 1, by omega⟩
    have e2 : 2 ^ (V + 1) = 2 * 2 ^ V := by rw [Nat.pow_succ]; omega
    have e3 : 2 ^ (m + 1) = 2 * 2 ^ m := by rw [Nat.pow_succ]; omega
    have hp := pw_le (show m ≤ V by omega)
    obtain ⟨s1, s2⟩ := sd_half.mp hs
    have l1 := sd_le hs
    have l2 := sd_le s1
    have ih := nxt_sub m V (h / 2) (x / 2) (by omega) (by omega) s1
    have lo := low_sub m V (h / 2) (x / 2) (by omega) (by omega) s1
    have d1 := and_half (2 ^ (V + 1) + x - h) h
    have d2 := and_odd (2 ^ (V + 1) + x - h) h
    have pcs : pc (m + 1) h = pc m (h / 2) + h % 2 := rfl
    have rks : ∀ z, rk (m + 1) h z = if h % 2 = 1 then 2 * rk m (h / 2) (z / 2) + z % 2 else rk m (h / 2) (z / 2) := fun _ => rfl
    by_cases ho : h % 2 = 1
    · have p2 : 2 ^ pc (m + 1) h = 2 * 2 ^ pc m (h / 2) := by rw [pcs, ho, Nat.pow_succ]; omega
      have hpos := pw_pos (pc m (h / 2))
      by_cases xo : x % 2 = 1
      · have d3 : (2 ^ (V + 1) + x - h) / 2 = 2 ^ V + x / 2 - h / 2 := by omega
        rw [d3] at d1
        refine ⟨fun e => ?_, fun q => ?_⟩
        · have := ih.1 (by omega)
          rw [rks, if_pos ho]
          omega
        · obtain ⟨i1, i2, i3, i4, i5⟩ := ih.2 (by omega)
          generalize (2 ^ V + x / 2 - h / 2) &&& (h / 2) = y at *
          generalize (2 ^ (V + 1) + x - h) &&& h = w at *
          have w0 : w % 2 = 0 := by omega
          refine ⟨sd_half.mpr ⟨by rw [d1]; exact i1, by omega⟩, by omega, fun k hk hx => ?_, ?_, ?_⟩
          · obtain ⟨t1, t2⟩ := sd_half.mp hk
            have := i3 (k / 2) t1 (by omega)
            omega
          · rw [rks, rks, if_pos ho, if_pos ho, d1, i4]
            omega
          · rw [rks, if_pos ho]
            omega
      · have d3 : (2 ^ (V + 1) + x - h) / 2 = 2 ^ V + x / 2 - h / 2 - 1 := by omega
        rw [d3, lo] at d1
        refine ⟨fun e => absurd (by rw [e]; exact ho) xo, fun q => ?_⟩
        have i9 : rk m (h / 2) (x / 2) + 1 ≤ 2 ^ pc m (h / 2) := by
          by_cases q2 : x / 2 = h / 2
          · exact Nat.le_of_eq (ih.1 q2)
          · exact Nat.le_of_lt (ih.2 q2).2.2.2.2
        generalize (2 ^ (V + 1) + x - h) &&& h = w at *
        have w0 : w % 2 = 1 := by omega
        refine ⟨sd_half.mpr ⟨by rw [d1]; exact s1, by omega⟩, by omega, fun k hk hx => by omega, ?_, ?_⟩
        · rw [rks, rks, if_pos ho, if_pos ho, d1]
          omega
        · rw [rks, if_pos ho]
          omega
    · have p2 : 2 ^ pc (m + 1) h = 2 ^ pc m (h / 2) := by rw [pcs, show h % 2 = 0 by omega, Nat.add_zero]
      have d3 : (2 ^ (V + 1) + x - h) / 2 = 2 ^ V + x / 2 - h / 2 := by omega
      rw [d3] at d1
      refine ⟨fun e => ?_, fun q => ?_⟩
      · have := ih.1 (by omega)
        rw [rks, if_neg ho]
        omega
      · obtain ⟨i1, i2, i3, i4, i5⟩ := ih.2 (by omega)
        generalize (2 ^ V + x / 2 - h / 2) &&& (h / 2) = y at *
        generalize (2 ^ (V + 1) + x - h) &&& h = w at *
        have w0 : w % 2 = 0 := by omega
        refine ⟨sd_half.mpr ⟨by rw [d1]; exact i1, by omega⟩, by omega, fun k hk hx => ?_, ?_, ?_⟩
        · obtain ⟨t1, t2⟩ := sd_half.mp hk
          have := i3 (k / 2) t1 (by omega)
          omega
        · rw [rks, rks, if_neg ho, if_neg ho, d1, i4]
        · rw [rks, if_neg ho]
          omega
theorem rk_0 : ∀ m h, rk m h 0 = 0
  | 0, _ => rfl
  | m + 1, h => by
    have := rk_0 m (h / 2)
    unfold rk
    rw [show (0 : Nat) / 2 = 0 from rfl, this]
    split <;> rfl
theorem pk_m1n (n : Nat) : nI (n + 1 + 1) + -nI 1 = nI (n + 1) := pk_m1 (n + 1)
theorem n_wrap (x : Nat) : nI (4294967296 + x) = nI x := Int32.toBitVec_inj.mp (by
  show BitVec.ofNat 32 (4294967296 + x) = BitVec.ofNat 32 x
  apply BitVec.eq_of_toNat_eq
  rw [BitVec.toNat_ofNat, BitVec.toNat_ofNat]
  omega)
theorem n_subw {x h : Nat} (hh : h ≤ 4294967296) : nI x - nI h = nI (4294967296 + x - h) := by rw [← n_wrap x, n_sub (by omega)]
def bcI (p1 : Int32) : Option Int32 := ji_bitCount p1 (fun _ _ => 0)
theorem bc_all : ∀ a, a < 32 → ∀ b, b < 32 → bcI (nI (32 * a + b)) = some (nI (pc 10 (32 * a + b))) := by decide +kernel
theorem k_bits {M : Mem} {h : Nat} (hh : h < 1024) : ji_bitCount (nI h) M = some (nI (pc 10 h)) := by
  have h1 := bc_all (h / 32) (by omega) (h % 32) (by omega)
  rw [show 32 * (h / 32) + h % 32 = h by omega] at h1
  exact h1
/-! moves -/
def thr (c : Nat → Nat) (s : Nat) : Nat := sd (al c) (here c (s / 2) (s % 2))
def tk (c : Nat → Nat) (s k : Nat) : Nat := if k < 1024 then crs c (s / 2) (s % 2) k (thr c s) else swm c (s / 2) (k - 1024)
def nx (s k : Nat) : Nat := if k < 1024 then s ^^^ (2 * k + 1) else s ^^^ (2 * 2 ^ (k - 1024))
/-- a move that goes -/
def vl (c : Nat → Nat) (s k : Nat) : Prop := k < 1024 + c 1 ∧ ¬ tk c s k = 0
/-- the moves below x are listed, in their order -/
def LsM (M : Mem) (c : Nat → Nat) (s B x : Nat) : Prop := ∃ (N : Nat) (l : Nat → Nat), N ≤ B ∧ M 75 10 = nI N ∧ (∀ i, i < N → M 80 i = nI (l i) ∧ M 81 i = nI (tk c s (l i)) ∧ vl c s (l i) ∧ l i < x) ∧ (∀ i j, i < j → j < N → l i < l j) ∧ (∀ k, k < x → vl c s k → ∃ i, i < N ∧ l i = k)
theorem LsM_up {M : Mem} {c : Nat → Nat} {s B x y : Nat} (h : LsM M c s B x) (hxy : x ≤ y) (hn : ∀ k, x ≤ k → k < y → ¬ vl c s k) : LsM M c s B y := by
  obtain ⟨N, l, h1, h2, h3, h4, h5⟩ := h
  refine ⟨N, l, h1, h2, fun i hi => ?_, h4, fun k hk hv => ?_⟩
  · obtain ⟨a, b, d, e⟩ := h3 i hi
    exact ⟨a, b, d, by omega⟩
  · by_cases q : k < x
    · exact h5 k q hv
    · exact absurd hv (hn k (by omega) hk)
theorem LsM_B {M : Mem} {c : Nat → Nat} {s B B' x : Nat} (h : LsM M c s B x) (hB : B ≤ B') : LsM M c s B' x := by
  obtain ⟨N, l, h1, h2⟩ := h
  exact ⟨N, l, by omega, h2⟩
theorem MV_cong {X X' : Mem} {c : Nat → Nat} (h : MV X c) (e : ∀ r i, r < 80 → ¬ (r = 75 ∧ i = 10) → X' r i = X r i) : MV X' c := by
  obtain ⟨hR, ⟨h1, h2, h3⟩, hw⟩ := h
  refine ⟨XR_cong hR fun r i _ _ => e r i (by omega) (by omega), ⟨?_, ?_, fun s hs => ?_⟩, hw⟩
  · rw [e _ _ (by omega) (by omega), h1]
  · rw [e _ _ (by omega) (by omega), h2]
  · rw [e _ _ (by omega) (by omega), e _ _ (by omega) (by omega), e _ _ (by omega) (by omega), e _ _ (by omega) (by omega)]
    exact h3 s hs
theorem tk_le {c : Nat → Nat} (hw : WR c) (s k : Nat) : tk c s k ≤ 69 := by
  unfold tk
  split
  · have := crs_le hw (ov := s / 2) (bk := s % 2) (ld := k) (pl := thr c s)
    omega
  · exact swm_le hw
theorem k_putM {M : Mem} {c : Nat → Nat} {s B x : Nat} (hw : WR c) (h : LsM M c s B x) (hB : B < 1034) (hx : x < 1024 + c 1) : ∃ M', mv_putMove (nI x) (mI (tk c s x)) M = some M' ∧ LsM M' c s (B + 1) (x + 1) ∧ (∀ r i, ¬ (r = 75 ∧ i = 10) → ¬ r = 80 → ¬ r = 81 → M' r i = M r i) := by
  obtain ⟨N, l, h1, h2, h3, h4, h5⟩ := h
  have ht := tk_le hw s x
  by_cases q : tk c s x = 0
  · refine ⟨M, ?_, ⟨N, l, by omega, h2, fun i hi => ?_, h4, fun k hk hv => ?_⟩, fun _ _ _ _ _ => rfl⟩
    · unfold mv_putMove mI
      rw [if_pos q, if_pos rfl]
    · obtain ⟨a, b, d, e⟩ := h3 i hi
      exact ⟨a, b, d, by omega⟩
    · by_cases e : k = x
      · exact absurd (e ▸ q) hv.2
      · exact h5 k (by omega) hv
  · refine ⟨wr (wr (wr M 80 N (nI x)) 81 N (nI (tk c s x))) 75 10 (nI (N + 1)), ?_, ⟨N + 1, fun i => if i = N then x else l i, by omega, wr_eq, fun i hi => ?_, fun i j hij hj => ?_, fun k hk hv => ?_⟩, fun r i e1 e2 e3 => by rw [wr_ne e1, wr_ne (by omega), wr_ne (by omega)]⟩
    · unfold mv_putMove mI
      rw [if_neg q, if_neg (nI_nm (by omega))]
      rw [h2]
      simp (disch := omega) only [n_lit, n_lt, if_pos, chk_in, n_cl, lt1_ap]
      rw [wr_ne (M := M) (by omega), h2]
      simp (disch := omega) only [chk_in, n_cl]
      rw [wr_ne (by omega), wr_ne (by omega), h2, n_add]
    · by_cases e : i = N
      · subst e
        rw [wr_ne (by omega), wr_ne (by omega), wr_eq, wr_ne (by omega), wr_eq]
        dsimp only
        rw [if_pos rfl]
        exact ⟨rfl, rfl, ⟨hx, q⟩, by omega⟩
      · obtain ⟨a, b, d, f⟩ := h3 i (by omega)
        rw [wr_ne (by omega), wr_ne (by omega), wr_ne (by omega), wr_ne (by omega), wr_ne (by omega), wr_ne (by omega)]
        dsimp only
        rw [if_neg e]
        exact ⟨a, b, d, by omega⟩
    · dsimp only
      by_cases e : j = N
      · rw [if_pos e, if_neg (by omega)]
        exact (h3 i (by omega)).2.2.2
      · rw [if_neg e, if_neg (by omega)]
        exact h4 i j hij (by omega)
    · by_cases e : k = x
      · exact ⟨N, by omega, by dsimp only; rw [if_pos rfl, e]⟩
      · obtain ⟨i, hi, hl⟩ := h5 k (by omega) hv
        exact ⟨i, by omega, by dsimp only; rw [if_neg (by omega), hl]⟩
theorem k_ferry {X : Mem} {c : Nat → Nat} (h : MV X c) {s L : Nat} (hs : s / 2 < 2 ^ c 1) (hL : L < 1024) : mv_ferrying (nI s) (nI L) X = some (mI (tk c s L)) := by
  have h10 := pw_10 (WR_n h.2.2)
  have ht := there_lt (here c (s / 2) (s % 2)) h.2.2
  unfold mv_ferrying tk
  rw [k_here h hs, h.2.1.1]
  simp only [n_lit, bind_s, n_sd]
  rw [k_crossing h hs (by omega) (by omega), if_pos hL]
  rfl
theorem vl_sub {c : Nat → Nat} {s k : Nat} (h : vl c s k) (hk : k < 1024) : sd k (here c (s / 2) (s % 2)) = 0 := by
  have := h.2
  unfold tk at this
  rw [if_pos hk] at this
  exact (crs_sub this).1
theorem kl_L {c : Nat → Nat} {s : Nat} (hw : WR c) (hs : s / 2 < 2 ^ c 1) {K : Mem → Option Mem} : ∀ m x fu (M : Mem), m + rk 10 (here c (s / 2) (s % 2)) x + 1 = 2 ^ pc 10 (here c (s / 2) (s % 2)) → sd x (here c (s / 2) (s % 2)) = 0 → m + 1 < fu → LsM M c s (rk 10 (here c (s / 2) (s % 2)) x) x → MV M c → ∃ M', mv_list_L21 (nI s) (nI (here c (s / 2) (s % 2))) K fu (nI x) (nI (m + 1)) M = K M' ∧ LsM M' c s 1024 1024 ∧ MV M' c ∧ (∀ r i, ¬ (r = 75 ∧ i = 10) → ¬ r = 80 → ¬ r = 81 → M' r i = M r i) := by
  have hh := here_lt (bk := s % 2) hw hs
  have hn := WR_n hw
  have h10 := pw_10 hn
  intro m
  induction m with
  | zero =>
    intro x fu M hm hx hf hL hV
    obtain ⟨fu, rfl⟩ := Nat.exists_eq_succ_of_ne_zero (show fu ≠ 0 by omega)
    obtain ⟨fu, rfl⟩ := Nat.exists_eq_succ_of_ne_zero (show fu ≠ 0 by omega)
    have hxl := sd_le hx
    have hpc := pw_10 (pc_le 10 (here c (s / 2) (s % 2)))
    have hxe : x = here c (s / 2) (s % 2) := by
      refine Classical.byContradiction fun q => ?_
      have := ((nxt_sub 10 32 _ x (show here c (s / 2) (s % 2) < 2 ^ 10 by omega) (by omega) hx).2 q).2.2.2.2
      omega
    obtain ⟨M1, e1, e2, e3⟩ := k_putM hw hL (by omega) (show x < 1024 + c 1 by omega)
    refine ⟨M1, ?_, LsM_B (LsM_up e2 (by omega) fun k h1 h2 hv => ?_) (by omega), MV_cong hV fun r i h1 h2 => e3 r i h2 (by omega) (by omega), e3⟩
    · rw [mv_list_L21, k_ferry hV hs (by omega)]
      simp (disch := omega) only [n_lit, n_lt, if_pos, bind_s, Nat.zero_add]
      rw [e1]
      simp only [bind_s]
      rw [show nI 1 + -nI 1 = nI 0 by decide, mv_list_L21, if_neg (by decide)]
    · have := sd_le (vl_sub hv h2)
      omega
  | succ m ih =>
    intro x fu M hm hx hf hL hV
    obtain ⟨fu, rfl⟩ := Nat.exists_eq_succ_of_ne_zero (show fu ≠ 0 by omega)
    have hxl := sd_le hx
    have hpc := pw_10 (pc_le 10 (here c (s / 2) (s % 2)))
    have hN := nxt_sub 10 32 _ x (show here c (s / 2) (s % 2) < 2 ^ 10 by omega) (by omega) hx
    have hxe : ¬ x = here c (s / 2) (s % 2) := fun q => by
      have := hN.1 q
      omega
    obtain ⟨n1, n2, n3, n4, n5⟩ := hN.2 hxe
    rw [show 2 ^ 32 = 4294967296 from rfl] at n1 n2 n3 n4
    obtain ⟨M1, e1, e2, e3⟩ := k_putM hw hL (by omega) (show x < 1024 + c 1 by omega)
    have hL2 : LsM M1 c s (rk 10 (here c (s / 2) (s % 2)) ((4294967296 + x - here c (s / 2) (s % 2)) &&& here c (s / 2) (s % 2))) ((4294967296 + x - here c (s / 2) (s % 2)) &&& here c (s / 2) (s % 2)) := by
      rw [n4]
      refine LsM_up e2 (by omega) fun k h1 h2 hv => ?_
      have h3 := sd_le n1
      have := n3 k (vl_sub hv (by omega)) (by omega)
      omega
    obtain ⟨M', i1, i2, i3, i4⟩ := ih _ fu M1 (by omega) n1 (by omega) hL2 (MV_cong hV fun r i h1 h2 => e3 r i h2 (by omega) (by omega))
    refine ⟨M', ?_, i2, i3, fun r i h1 h2 h3 => by rw [i4 r i h1 h2 h3, e3 r i h1 h2 h3]⟩
    rw [mv_list_L21, k_ferry hV hs (by omega), ← i1]
    simp (disch := omega) only [n_lit, n_lt, if_pos, bind_s]
    rw [e1]
    simp only [bind_s]
    rw [n_subw (by omega), n_and, pk_m1n]
theorem ks_L {c : Nat → Nat} {s : Nat} (hw : WR c) (hs : s / 2 < 2 ^ c 1) {K : Mem → Option Mem} : ∀ m k fu (M : Mem), k + m = c 1 → m < fu → LsM M c s (1024 + k) (1024 + k) → MV M c → ∃ M', mv_list_L52 (nI s) K fu (nI k) M = K M' ∧ LsM M' c s 1034 (1024 + c 1) ∧ MV M' c ∧ (∀ r i, ¬ (r = 75 ∧ i = 10) → ¬ r = 80 → ¬ r = 81 → M' r i = M r i)
  | 0, k, 0, M, _, hf => absurd hf (by omega)
  | 0, k, fu + 1, M, hk, _ => fun hL hV => by
    have hn := WR_n hw
    refine ⟨M, ?_, LsM_B (show k = c 1 by omega ▸ hL) (by omega), hV, fun _ _ _ _ _ => rfl⟩
    rw [mv_list_L52, hV.1.2.1]
    simp (disch := omega) only [n_lit, n_lt, if_neg]
  | m + 1, k, 0, M, _, hf => absurd hf (by omega)
  | m + 1, k, fu + 1, M, hk, hf => fun hL hV => by
    have hn := WR_n hw
    obtain ⟨M1, e1, e2, e3⟩ := k_putM hw hL (by omega) (show 1024 + k < 1024 + c 1 by omega)
    obtain ⟨M', i1, i2, i3, i4⟩ := ks_L hw hs (K := K) m (k + 1) fu M1 (by omega) (by omega) e2 (MV_cong hV fun r i h1 h2 => e3 r i h2 (by omega) (by omega))
    refine ⟨M', ?_, i2, i3, fun r i h1 h2 h3 => by rw [i4 r i h1 h2 h3, e3 r i h1 h2 h3]⟩
    have e4 : tk c s (1024 + k) = swm c (s / 2) k := by
      unfold tk
      rw [if_neg (by omega), show 1024 + k - 1024 = k by omega]
    rw [e4] at e1
    rw [mv_list_L52, hV.1.2.1, k_swim hV hs (by omega), ← i1]
    simp (disch := omega) only [n_lit, n_lt, if_pos, bind_s, n_add]
    rw [e1]
    rfl
/-- the class's list of a state -/
theorem k_list {X : Mem} {c : Nat → Nat} {s : Nat} (h : MV X c) (hs : s / 2 < 2 ^ c 1) : ∃ X', mv_list (nI s) X = some X' ∧ LsM X' c s 1034 (1024 + c 1) ∧ MV X' c ∧ (∀ r i, ¬ (r = 75 ∧ i = 10) → ¬ r = 80 → ¬ r = 81 → X' r i = X r i) := by
  have hw := h.2.2
  have hn := WR_n hw
  have h10 := pw_10 hn
  have hh := here_lt (bk := s % 2) hw hs
  have hpc := pw_10 (pc_le 10 (here c (s / 2) (s % 2)))
  have hpl := pc_le 10 (here c (s / 2) (s % 2))
  have hpp := pw_pos (pc 10 (here c (s / 2) (s % 2)))
  have h1 : MV (wr X 75 10 (nI 0)) c := MV_cong h fun r i _ h2 => wr_ne h2
  obtain ⟨M1, e1, e2, e3, e4⟩ := kl_L hw hs (K := fun M7 => mv_list_L52 (nI s) (fun M11 => some M11) FU (nI 0) M7) (2 ^ pc 10 (here c (s / 2) (s % 2)) - 1) 0 FU (wr X 75 10 (nI 0)) (by rw [rk_0]; omega) (sd_0.mpr fun i hi => by rw [Nat.zero_testBit] at hi; exact Bool.noConfusion hi) (by rw [FUe]; omega) ⟨0, fun _ => 0, Nat.zero_le _, wr_eq, fun i hi => absurd hi (by omega), fun i j _ hj => absurd hj (by omega), fun k hk => absurd hk (by omega)⟩ h1
  obtain ⟨M2, f1, f2, f3, f4⟩ := ks_L hw hs (K := fun M11 => some M11) (c 1) 0 FU M1 (by omega) (by rw [FUe]; omega) (LsM_B e2 (by omega)) e3
  refine ⟨M2, ?_, f2, f3, fun r i a b d => by rw [f4 r i a b d, e4 r i a b d, wr_ne a]⟩
  unfold mv_list
  simp only [lt1_ap, n_lit]
  rw [k_here h1 hs]
  simp only [bind_s]
  rw [k_bits (by omega)]
  simp (disch := omega) only [bind_s, n_m31, n_shl1]
  rw [show 2 ^ pc 10 (here c (s / 2) (s % 2)) = 2 ^ pc 10 (here c (s / 2) (s % 2)) - 1 + 1 by omega]
  exact e1.trans f1
