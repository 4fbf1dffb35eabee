/-! the reference tries a move -/
def plz (c : Nat → Nat) (t : Nat) : Nat := mk (fun b => t.testBit b && decide (0 < fo c b)) (c 1)
theorem r_pull_L {Y : Mem} {c : Nat → Nat} {T t : Nat} {p1 p2 : Int32} (h : EY Y c) (hw : WR c) (hb : WB T c) (hT : T ≤ 520) {K : Int32 → Option Int32} : ∀ m k fu, k + m = c 1 → m < fu → md_pullersAt_L23 p1 p2 (nI t) Y K fu (nI (mk (fun b => t.testBit b && decide (0 < fo c b)) k)) (nI k) = K (nI (plz c t))
  | 0, k, 0, _, hf => absurd hf (by omega)
  | 0, k, fu + 1, hk, _ => by
    have h10 := WR_n hw
    rw [md_pullersAt_L23, EY_n h (i := 1) (by omega) (by omega)]
    simp (disch := omega) only [n_lt, if_neg]
    rw [show k = c 1 by omega]
    rfl
  | m + 1, k, 0, _, hf => absurd hf (by omega)
  | m + 1, k, fu + 1, hk, hf => by
    have h10 := WR_n hw
    have ih := r_pull_L h hw hb hT (t := t) (p1 := p1) (p2 := p2) (K := K) m (k + 1) fu (by omega) (by omega)
    have hf9 := fo_le hw (show k < c 1 by omega)
    have hm := mk_lt (fun b => t.testBit b && decide (0 < fo c b)) k
    have es : mk (fun b => t.testBit b && decide (0 < fo c b)) (k + 1) = mk (fun b => t.testBit b && decide (0 < fo c b)) k + if (t.testBit k && decide (0 < fo c k)) = true then 2 ^ k else 0 := rfl
    have e2 : mk (fun b => t.testBit b && decide (0 < fo c b)) k ||| 2 ^ k = mk (fun b => t.testBit b && decide (0 < fo c b)) k + 2 ^ k := by rw [Nat.or_comm, or_add hm, Nat.add_comm]
    rw [md_pullersAt_L23, EY_n h (i := 1) (by omega) (by omega), r_isOf (by omega), r_force h hw hb hT (by omega), ← ih, es]
    simp (disch := omega) only [n_lit, n_lt, if_pos, bind_s, bI_0, n_m31, n_shl1, n_or, n_add, e2]
    cases t.testBit k
    · rw [if_pos rfl]
      rfl
    · rw [if_neg (by decide)]
      by_cases q : 0 < fo c k
      · rw [if_pos q, decide_eq_true q]
        rfl
      · rw [if_neg q, decide_eq_false q]
        rfl
theorem sd_sd {c : Nat → Nat} {ov : Nat} (h : ov < 2 ^ c 1) : sd (al c) (sd (al c) ov) = ov := Nat.eq_of_testBit_eq fun i => by
  rw [sd_tb, sd_tb, al_b]
  by_cases q : i < c 1
  · rw [decide_eq_true q]; simp
  · rw [decide_eq_false q, tb_big h (by omega)]; rfl
theorem thr_eq {c : Nat → Nat} {s : Nat} (hs : s / 2 < 2 ^ c 1) : thr c s = if s % 2 = 0 then s / 2 else sd (al c) (s / 2) := by
  unfold thr here
  by_cases q : s % 2 = 0
  · rw [if_pos q, if_pos q, sd_sd hs]
  · rw [if_neg q, if_neg q]
theorem r_pull {Y : Mem} {c : Nat → Nat} {T s : Nat} (h : EY Y c) (hw : WR c) (hb : WB T c) (hT : T ≤ 520) (hs : s / 2 < 2 ^ c 1) : md_pullersAt (nI (s / 2)) (nI (s % 2)) Y = some (nI (plz c (thr c s))) := by
  have h10 := WR_n hw
  have L : ∀ t p1 p2, md_pullersAt_L23 p1 p2 (nI t) Y (fun v4_3 => some (v4_3)) FU ((0 : Int32)) ((0 : Int32)) = some (nI (plz c t)) := fun t p1 p2 => r_pull_L h hw hb hT (t := t) (K := fun v => some v) (c 1) 0 FU (by omega) (by rw [FUe]; omega)
  unfold md_pullersAt md_pullersAt_J16
  rw [r_all h hw]
  simp (disch := omega) only [bind_s]
  rw [thr_eq hs]
  by_cases q : s % 2 = 0
  · rw [if_pos (show nI (s % 2) = 0 by rw [q]; rfl), if_pos q, L]
  · rw [if_neg (show ¬ nI (s % 2) = 0 by rw [n_lit, n_eq (by omega) (by omega)]; exact q), if_neg q]
    simp only [n_lit, n_sd]
    exact L _ _ _
theorem plz_sum {c : Nat → Nat} {t : Nat} : sB (fo c) (plz c t) (c 1) = sB (fo c) t (c 1) := sB_cong fun k hk => by
  unfold plz
  rw [mk_tb, decide_eq_true hk, Bool.true_and]
  cases t.testBit k
  · rfl
  · by_cases q : 0 < fo c k
    · rw [decide_eq_true q]; rfl
    · rw [decide_eq_false q]
      show (if false = true then fo c k else 0) = if true = true then fo c k else 0
      rw [if_neg (by decide), if_pos rfl]
      omega
theorem plz_sub {c : Nat → Nat} {t : Nat} : sd (plz c t) t = 0 := sd_0.mpr fun i hi => by
  unfold plz at hi
  rw [mk_tb, Bool.and_eq_true, Bool.and_eq_true] at hi
  exact hi.2.1
theorem sd_self (t : Nat) : sd t t = 0 := sd_0.mpr fun _ h => h
theorem crs_plz {c : Nat → Nat} {s k : Nat} : crs c (s / 2) (s % 2) k (plz c (thr c s)) = crs c (s / 2) (s % 2) k (thr c s) := by
  unfold crs
  rw [plz_sum]
  have h1 : sd (plz c (thr c s)) (sd (al c) (here c (s / 2) (s % 2))) = 0 := plz_sub
  have h2 : sd (thr c s) (sd (al c) (here c (s / 2) (s % 2))) = 0 := sd_self _
  rw [h1, h2]
theorem plz_lt {c : Nat → Nat} (t : Nat) : plz c t < 2 ^ c 1 := mk_lt _ _
theorem nx_cross {s k : Nat} (hk : k < 1024) : nx s k = 2 * (s / 2 ^^^ k) + 1 - s % 2 := by
  have h1 : (s ^^^ (2 * k + 1)) / 2 = s / 2 ^^^ k := by rw [Nat.xor_div_two]; congr 1; omega
  have h2 : (s ^^^ (2 * k + 1)) % 2 = 1 ↔ ¬ ((s % 2 = 1) ↔ ((2 * k + 1) % 2 = 1)) := Nat.xor_mod_two_eq_one
  unfold nx
  rw [if_pos hk]
  omega
theorem nx_swim {s b : Nat} : nx s (1024 + b) = 2 * (s / 2 ^^^ 2 ^ b) + s % 2 := by
  have h1 : (s ^^^ (2 * 2 ^ b)) / 2 = s / 2 ^^^ 2 ^ b := by rw [Nat.xor_div_two]; congr 1; omega
  have h2 : (s ^^^ (2 * 2 ^ b)) % 2 = 1 ↔ ¬ ((s % 2 = 1) ↔ ((2 * 2 ^ b) % 2 = 1)) := Nat.xor_mod_two_eq_one
  unfold nx
  rw [if_neg (by omega), show 1024 + b - 1024 = b by omega]
  omega
theorem nx_lt {c : Nat → Nat} {s k : Nat} (hw : WR c) (hs : s / 2 < 2 ^ c 1) (hv : vl c s k) : nx s k / 2 < 2 ^ c 1 := by
  by_cases q : k < 1024
  · rw [nx_cross q]
    have h1 := sub_lt (vl_sub hv q) (here_lt (bk := s % 2) hw hs)
    have h2 := xor_lt hs h1
    omega
  · obtain ⟨b, rfl⟩ := Nat.exists_eq_add_of_le (show 1024 ≤ k by omega)
    rw [nx_swim]
    have h1 := pw_lt (show b < c 1 by have := hv.1; omega)
    have h2 := xor_lt hs h1
    omega
/-- where a move leads: as an int, none as -1 -/
def nxI (c : Nat → Nat) (s k : Nat) : Int32 := if tk c s k = 0 then -1 else nI (nx s k)
theorem r_behind {Y : Mem} {c : Nat → Nat} {T s k : Nat} (h : EY Y c) (hw : WR c) (hb : WB T c) (hT : T ≤ 520) (hs : s / 2 < 2 ^ c 1) (hk : k < 1024 + c 1) : md_behind (nI s) (nI k) Y = some (nxI c s k, rY Y (tk c s k)) := by
  have hn := WR_n hw
  have h10 := pw_10 hn
  unfold md_behind nxI
  by_cases q : k < 1024
  · have et : tk c s k = crs c (s / 2) (s % 2) k (plz c (thr c s)) := by
      unfold tk
      rw [if_pos q, crs_plz]
    have hpl := plz_lt (c := c) (thr c s)
    simp (disch := omega) only [n_lit, n_lt, if_pos, n_div, n_rem]
    rw [r_pull h hw hb hT hs]
    simp only [bind_s]
    rw [r_cross h hw hb hT hs (by omega) (by omega) (by omega), ← et]
    unfold bnd2
    dsimp only
    by_cases q0 : tk c s k = 0
    · rw [q0, if_pos (show bI (decide (¬ (0 : Nat) = 0)) = nI 0 from rfl), if_pos rfl]
    · rw [if_neg (show ¬ bI (decide (¬ tk c s k = 0)) = nI 0 by rw [decide_eq_true q0]; decide), if_neg q0]
      have hv : vl c s k := ⟨hk, q0⟩
      have h1 := sub_lt (vl_sub hv q) (here_lt (bk := s % 2) hw hs)
      have h2 := xor_lt hs h1
      rw [nx_cross q]
      simp (disch := omega) only [n_xor, n_mul, n_add, n_sub]
  · obtain ⟨b, rfl⟩ := Nat.exists_eq_add_of_le (show 1024 ≤ k by omega)
    have et : tk c s (1024 + b) = swm c (s / 2) b := by
      unfold tk
      rw [if_neg q, show 1024 + b - 1024 = b by omega]
    simp (disch := omega) only [n_lit, n_lt, if_neg, n_sub, n_div, n_rem]
    rw [show 1024 + b - 1024 = b by omega, r_isBYes h hw (by omega)]
    simp (disch := omega) only [bind_s, n_eq, if_neg, if_false]
    rw [r_swim h hw hb hT hs (by omega), ← et]
    simp only [bind_s]
    by_cases q0 : tk c s (1024 + b) = 0
    · rw [q0, if_pos (show bI (decide (¬ (0 : Nat) = 0)) = nI 0 from rfl), if_pos rfl]
      rfl
    · rw [if_neg (show ¬ bI (decide (¬ tk c s (1024 + b) = 0)) = nI 0 by rw [decide_eq_true q0]; decide), if_neg q0, r_stream h hb hT]
      have ee := swm_eq (c := c) (ov := s / 2) (b := b) (by rw [← et]; exact q0)
      simp (disch := omega) only [bind_s, lt1_ap, n_m31, n_shl1]
      rw [EY_n h (i := 7) (by omega) (by omega), n_add, n_xor, n_mul, n_add, nx_swim, et, ee]
      unfold rY
      rw [if_neg (by have := hw.2.2.2.2.1.1; omega)]
theorem k_behind {X : Mem} {s k : Nat} (hs : s < 2048) (hk : k < 1034) : mv_behind (nI s) (nI k) X = some (nI (nx s k)) := by
  unfold mv_behind nx
  by_cases q : k < 1024
  · have e := Nat.two_pow_add_eq_or_of_lt (show 1 < 2 ^ 1 by omega) k
    rw [show 2 ^ 1 = 2 from rfl] at e
    simp (disch := omega) only [n_lit, n_lt, if_pos, n_m31, n_shl, n_or, n_xor, Nat.pow_one]
    rw [Nat.mul_comm k 2, ← e]
  · have hp := pw_le (show k - 1024 ≤ 9 by omega)
    have h9 : 2 ^ 9 = 512 := rfl
    simp (disch := omega) only [n_lit, n_lt, if_neg, n_sub, n_m31, n_shl, n_xor]
