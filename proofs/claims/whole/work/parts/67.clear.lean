/-! what is owed is cleared -/
theorem zI_lt {a b : Int} (h1 : -1000000 ≤ a ∧ a ≤ 1000000) (h2 : -1000000 ≤ b ∧ b ≤ 1000000) : (zI a < zI b) = (a < b) := by
  rw [Int32.lt_iff_toInt_lt, zI_to (by omega) (by omega), zI_to (by omega) (by omega)]
theorem zI_neg (a : Int) : -zI a = zI (-a) := by
  have h := zI_sub 0 a
  rw [show zI 0 = 0 from rfl, Int32.zero_sub, Int.zero_sub] at h
  exact h
theorem zI_0 : nI 0 = zI 0 := rfl
def sI (f : Nat → Int) : Nat → Int
  | 0 => 0
  | k + 1 => sI f k + f k
theorem sI_add (f g : Nat → Int) : ∀ n, sI (fun b => f b + g b) n = sI f n + sI g n
  | 0 => rfl
  | n + 1 => by
    have := sI_add f g n
    unfold sI
    rw [this]
    omega
theorem sI_cong {f g : Nat → Int} : ∀ {n : Nat}, (∀ k, k < n → f k = g k) → sI f n = sI g n
  | 0, _ => rfl
  | n + 1, h => by
    unfold sI
    rw [sI_cong (fun k hk => h k (by omega)), h n (by omega)]
theorem bal_sum {c : Nat → Nat} : ∀ n, sI (fun b => bal c b n) n = 0
  | 0 => rfl
  | n + 1 => by
    have ih := bal_sum (c := c) n
    have h1 : sI (fun b => bal c b (n + 1)) n = sI (fun b => bal c b n) n + sI (fun b => (pu c n b : Int) - (pu c b n : Int)) n := sI_add _ _ n
    have h2 : ∀ m, sI (fun b => (pu c n b : Int) - (pu c b n : Int)) m + bal c n m = 0 := by
      intro m
      induction m with
      | zero => rfl
      | succ m ih2 =>
        show sI _ m + ((pu c n m : Int) - (pu c m n : Int)) + (bal c n m + ((pu c m n : Int) - (pu c n m : Int))) = 0
        omega
    have h3 := h2 n
    show sI (fun b => bal c b (n + 1)) n + (bal c n n + ((pu c n n : Int) - (pu c n n : Int))) = 0
    omega
/-- of the places below N, x is the first greatest -/
def fmx (z : Nat → Int) (x N : Nat) : Prop := x < N ∧ (∀ j, j < N → z j ≤ z x) ∧ ∀ j, j < x → z j < z x
def hi (z : Nat → Int) : Nat → Nat → Nat → Nat
  | x, _, 0 => x
  | x, k, m + 1 => hi z (if z x < z k then k else x) (k + 1) m
theorem hi_spec {z : Nat → Int} : ∀ {m k x : Nat}, fmx z x k → fmx z (hi z x k m) (k + m)
  | 0, _, _, h => h
  | m + 1, k, x, h => by
    have h2 : fmx z (if z x < z k then k else x) (k + 1) := by
      obtain ⟨h1, h2, h3⟩ := h
      by_cases q : z x < z k
      · rw [if_pos q]
        refine ⟨by omega, fun j hj => ?_, fun j hj => ?_⟩
        · by_cases e : j = k
          · rw [e]; exact Int.le_refl _
          · have := h2 j (by omega); omega
        · have := h2 j hj; omega
      · rw [if_neg q]
        refine ⟨by omega, fun j hj => ?_, h3⟩
        by_cases e : j = k
        · rw [e]; omega
        · exact h2 j (by omega)
    have h4 := hi_spec (m := m) h2
    rw [show k + 1 + m = k + (m + 1) by omega] at h4
    exact h4
theorem fmx_one {z : Nat → Int} {x y N : Nat} (hx : fmx z x N) (hy : fmx z y 10) (hN : N ≤ 10) (h0 : ∀ b, N ≤ b → b < 10 → z b = 0) (hp : 0 < z x) : y = x := by
  have h1 := hy.2.1 x (by have := hx.1; omega)
  have h2 : y < N := by
    refine Classical.byContradiction fun q => ?_
    have := h0 y (by omega) hy.1
    omega
  have h3 := hx.2.1 y h2
  rcases Nat.lt_trichotomy y x with q | q | q
  · have := hx.2.2 y q; omega
  · exact q
  · have := hy.2.2 x q; omega
def neg (z : Nat → Int) (b : Nat) : Int := -z b
def cz (z : Nat → Int) : Nat → Nat
  | 0 => 0
  | k + 1 => cz z k + if z k = 0 then 0 else 1
theorem cz_le {z w : Nat → Int} : ∀ {n : Nat}, (∀ k, k < n → z k = 0 → w k = 0) → cz w n ≤ cz z n
  | 0, _ => Nat.le_refl _
  | n + 1, h => by
    have h1 := cz_le (z := z) (w := w) (n := n) fun k hk => h k (by omega)
    have h2 := h n (by omega)
    unfold cz
    by_cases q : z n = 0
    · rw [if_pos q, if_pos (h2 q)]; omega
    · rw [if_neg q]; split <;> omega
theorem cz_lt {z w : Nat → Int} {a : Nat} : ∀ {n : Nat}, (∀ k, k < n → z k = 0 → w k = 0) → a < n → ¬ z a = 0 → w a = 0 → cz w n < cz z n
  | 0, _, h, _, _ => absurd h (by omega)
  | n + 1, h, ha, h3, h4 => by
    have h1 := cz_le (z := z) (w := w) (n := n) fun k hk => h k (by omega)
    by_cases e : a = n
    · subst e
      unfold cz
      rw [if_neg h3, if_pos h4]; omega
    · have h5 := cz_lt (z := z) (w := w) (a := a) (n := n) (fun k hk => h k (by omega)) (by omega) h3 h4
      have h2 := h n (by omega)
      unfold cz
      by_cases q : z n = 0
      · rw [if_pos q, if_pos (h2 q)]; omega
      · rw [if_neg q]; split <;> omega
theorem cz_0 {z : Nat → Int} : ∀ {n : Nat}, cz z n = 0 → ∀ k, k < n → z k = 0
  | 0, _, k, hk => absurd hk (by omega)
  | n + 1, h, k, hk => by
    unfold cz at h
    by_cases q : z n = 0
    · rw [if_pos q] at h
      by_cases e : k = n
      · rw [e]; exact q
      · exact cz_0 (n := n) (by omega) k (by omega)
    · rw [if_neg q] at h
      omega
theorem sI_np {z : Nat → Int} : ∀ {n : Nat}, (∀ k, k < n → z k ≤ 0) → sI z n ≤ 0 ∧ (sI z n = 0 → ∀ k, k < n → z k = 0)
  | 0, _ => ⟨Int.le_refl _, fun _ k hk => absurd hk (by omega)⟩
  | n + 1, h => by
    have h1 := sI_np (z := z) (n := n) fun k hk => h k (by omega)
    have h2 := h n (by omega)
    refine ⟨by unfold sI; omega, fun e k hk => ?_⟩
    unfold sI at e
    by_cases q : k = n
    · rw [q]; omega
    · exact h1.2 (by omega) k (by omega)
theorem sI_neg (z : Nat → Int) : ∀ n, sI (neg z) n = -sI z n
  | 0 => rfl
  | n + 1 => by
    have := sI_neg z n
    unfold sI
    rw [this]
    unfold neg
    omega
theorem sI_up {z w : Nat → Int} {a : Nat} {d : Int} : ∀ {n : Nat}, (∀ k, k < n → ¬ k = a → w k = z k) → a < n → w a = z a + d → sI w n = sI z n + d
  | 0, _, h, _ => absurd h (by omega)
  | n + 1, h, ha, e => by
    by_cases q : a = n
    · subst q
      have : sI w a = sI z a := sI_cong fun k hk => h k (by omega) (by omega)
      unfold sI
      omega
    · have h1 := sI_up (z := z) (w := w) (a := a) (d := d) (n := n) (fun k hk => h k (by omega)) (by omega) e
      have h2 := h n (by omega) (by omega)
      unfold sI
      omega
/-- balances of the ten -/
def BZ (z : Nat → Int) (n : Nat) : Prop := n ≤ 10 ∧ (∀ b, n ≤ b → b < 10 → z b = 0) ∧ sI z 10 = 0 ∧ ∀ b, b < 10 → -10000 ≤ z b ∧ z b ≤ 10000
theorem k_hi_L {M : Mem} {z : Nat → Int} (hM : ∀ b, b < 10 → M 43 b = zI (z b)) (hz : ∀ b, b < 10 → -10000 ≤ z b ∧ z b ≤ 10000) {K : Int32 → Option Int32} : ∀ m k x fu, k + m = 10 → x < 10 → m < fu → bk_greatest_L4 30 M K fu (nI x) (nI k) = K (nI (hi z x k m))
  | 0, k, x, 0, _, _, hf => absurd hf (by omega)
  | 0, k, x, fu + 1, hk, _, _ => by
    rw [bk_greatest_L4]
    simp (disch := omega) only [n_lit, n_lt, if_neg]
    rfl
  | m + 1, k, x, 0, _, _, hf => absurd hf (by omega)
  | m + 1, k, x, fu + 1, hk, hx, hf => by
    have ih := k_hi_L hM hz (K := K) m (k + 1) (if z x < z k then k else x) fu (by omega) (by split <;> omega) (by omega)
    have e1 := hz x hx
    have e2 := hz k (by omega)
    rw [bk_greatest_L4]
    simp (disch := omega) only [n_lit, n_lt, if_pos, chk_in, n_cl, n_add]
    rw [show M (30 + 13) x = zI (z x) from hM x hx, show M (30 + 13) k = zI (z k) from hM k (by omega)]
    simp (disch := omega) only [zI_lt]
    show _ = K (nI (hi z (if z x < z k then k else x) (k + 1) m))
    rw [← ih]
    split <;> rfl
theorem k_lo_L {M : Mem} {z : Nat → Int} (hM : ∀ b, b < 10 → M 43 b = zI (z b)) (hz : ∀ b, b < 10 → -10000 ≤ z b ∧ z b ≤ 10000) {K : Int32 → Option Int32} : ∀ m k x fu, k + m = 10 → x < 10 → m < fu → bk_least_L4 30 M K fu (nI x) (nI k) = K (nI (hi (neg z) x k m))
  | 0, k, x, 0, _, _, hf => absurd hf (by omega)
  | 0, k, x, fu + 1, hk, _, _ => by
    rw [bk_least_L4]
    simp (disch := omega) only [n_lit, n_lt, if_neg]
    rfl
  | m + 1, k, x, 0, _, _, hf => absurd hf (by omega)
  | m + 1, k, x, fu + 1, hk, hx, hf => by
    have ih := k_lo_L hM hz (K := K) m (k + 1) (if neg z x < neg z k then k else x) fu (by omega) (by split <;> omega) (by omega)
    have e1 := hz x hx
    have e2 := hz k (by omega)
    rw [bk_least_L4]
    simp (disch := omega) only [n_lit, n_lt, if_pos, chk_in, n_cl, n_add]
    rw [show M (30 + 13) x = zI (z x) from hM x hx, show M (30 + 13) k = zI (z k) from hM k (by omega)]
    simp (disch := omega) only [zI_lt]
    show _ = K (nI (hi (neg z) (if neg z x < neg z k then k else x) (k + 1) m))
    rw [← ih]
    by_cases q : z k < z x
    · rw [if_pos q, if_pos (show neg z x < neg z k by unfold neg; omega)]
    · rw [if_neg q, if_neg (show ¬ neg z x < neg z k by unfold neg; omega)]
theorem r_hl_L {Y : Mem} {z : Nat → Int} {n : Nat} {p y2 : Int32} (hY : ∀ b, b < n → Y 12 b = zI (z b)) (hn : n ≤ 10) (h1 : Y 1 1 = nI n) (hz : ∀ b, b < 10 → -10000 ≤ z b ∧ z b ≤ 10000) {K : Int32 → Int32 → Option (Int32 × Mem)} : ∀ m k x y fu, k + m = n → x < n → y < n → m < fu → md_clear_L69 p y2 Y K fu (nI x) (nI y) (nI k) = K (nI (hi z x k m)) (nI (hi (neg z) y k m))
  | 0, k, x, y, 0, _, _, _, hf => absurd hf (by omega)
  | 0, k, x, y, fu + 1, hk, _, _, _ => by
    rw [md_clear_L69, h1]
    simp (disch := omega) only [n_lit, n_lt, if_neg]
    rfl
  | m + 1, k, x, y, 0, _, _, _, hf => absurd hf (by omega)
  | m + 1, k, x, y, fu + 1, hk, hx, hy, hf => by
    have ih := r_hl_L hY hn h1 hz (p := p) (y2 := y2) (K := K) m (k + 1) (if z x < z k then k else x) (if neg z y < neg z k then k else y) fu (by omega) (by split <;> omega) (by split <;> omega) (by omega)
    have e1 := hz x (by omega)
    have e2 := hz k (by omega)
    have e3 := hz y (by omega)
    have J : ∀ s, md_clear_J110 p (fun a4 a5 a6 => md_clear_L69 p y2 Y K fu a4 a5 a6) K y2 (nI y) (nI k) (nI s) Y = md_clear_L69 p y2 Y K fu (nI s) (nI (if neg z y < neg z k then k else y)) (nI (k + 1)) := fun s => by
      unfold md_clear_J110
      simp (disch := omega) only [n_lit, n_ng, if_false, chk_in, n_cl, n_add]
      rw [hY y hy, hY k (by omega)]
      simp (disch := omega) only [zI_lt]
      by_cases q : z k < z y
      · rw [if_pos q, if_pos (show neg z y < neg z k by unfold neg; omega)]
      · rw [if_neg q, if_neg (show ¬ neg z y < neg z k by unfold neg; omega)]
    rw [md_clear_L69, h1]
    unfold md_clear_J103
    simp (disch := omega) only [n_lit, n_lt, if_pos, n_ng, if_false, chk_in, n_cl]
    rw [J, J, hY x hx, hY k (by omega)]
    simp (disch := omega) only [zI_lt]
    show _ = K (nI (hi z (if z x < z k then k else x) (k + 1) m)) (nI (hi (neg z) (if neg z y < neg z k then k else y) (k + 1) m))
    rw [← ih]
    by_cases q : z x < z k
    · rw [if_pos q, if_pos q]
    · rw [if_neg q, if_neg q]
theorem r_hl {Y : Mem} {z : Nat → Int} {n : Nat} {p y2 : Int32} (hY : ∀ b, b < n → Y 12 b = zI (z b)) (hn : n ≤ 10) (h0 : 0 < n) (h1 : Y 1 1 = nI n) (hz : ∀ b, b < 10 → -10000 ≤ z b ∧ z b ≤ 10000) {K : Int32 → Int32 → Option (Int32 × Mem)} : md_clear_L69 p y2 Y K FU (-1) (-1) 0 = K (nI (hi z 0 1 (n - 1))) (nI (hi (neg z) 0 1 (n - 1))) := by
  have e : FU = 999999 + 1 := rfl
  have ih := r_hl_L hY hn h1 hz (p := p) (y2 := y2) (K := K) (n - 1) 1 0 0 999999 (by omega) h0 h0 (by omega)
  rw [e, md_clear_L69, h1]
  unfold md_clear_J103 md_clear_J110
  simp (disch := omega) only [n_lit, n_lt, if_pos, if_true, n_add]
  exact ih
def payZ (z : Nat → Int) (a b : Nat) (d : Int) (k : Nat) : Int := if k = b then z b + d else if k = a then z a - d else z k
abbrev payK (p : Int32) : Int32 → Mem → Option (Int32 × Mem) := fun v M => if p = (-1 : Int32) then some (v, M) else some ((-1 : Int32), M)
theorem payK_v (p : Int32) (v : Int32) (M : Mem) : payK p v M = some (if p = (-1 : Int32) then v else -1, M) := by
  unfold payK
  split <;> rfl
theorem r_stop {p : Int32} {n x fb : Nat} {Y : Mem} {z : Nat → Int} (hY : ∀ b, b < n → Y 12 b = zI (z b)) (h1 : Y 1 1 = nI n) (hz : BZ z n) (hle : ∀ b, b < n → z b ≤ 0) : md_clear_L56 p (payK p) (fb + 2) (nI x) (nI 1) Y = payK p (nI x) Y := by
  obtain ⟨hn10, hz0, hzs, hzb⟩ := hz
  have stop : ∀ (a b : Int32), md_clear_J170 p (fun a2 a3 aM => md_clear_L56 p (payK p) (fb + 1) a2 a3 aM) (payK p) (nI x) a b Y = payK p (nI x) Y := fun a b => by
    unfold md_clear_J170 md_clear_J171
    rw [if_pos rfl]
    show md_clear_L56 p (payK p) (fb + 1) (nI x) 0 Y = _
    rw [md_clear_L56, if_pos rfl]
  rw [md_clear_L56, if_neg (by decide)]
  rcases Nat.eq_zero_or_pos n with q | q
  · subst q
    have e : FU = 999999 + 1 := rfl
    rw [e, md_clear_L69, h1, if_neg (by decide), if_pos rfl, stop]
  · have f1 : fmx z (hi z 0 1 (n - 1)) (1 + (n - 1)) := hi_spec ⟨by omega, fun j hj => by rw [show j = 0 by omega]; exact Int.le_refl _, fun j hj => absurd hj (by omega)⟩
    rw [r_hl hY hn10 q h1 hzb]
    have hh := f1.1
    have e0 := hle (hi z 0 1 (n - 1)) (by omega)
    have e1 := hzb (hi z 0 1 (n - 1)) (by omega)
    simp (disch := omega) only [n_lit, n_ng, if_false, chk_in, n_cl]
    rw [hY _ (by omega), zI_0]
    simp (disch := omega) only [zI_lt, if_neg]
    exact stop _ _
theorem hi_fmx {z : Nat → Int} {n : Nat} (h : 0 < n) : fmx z (hi z 0 1 (n - 1)) n := by
  have := hi_spec (z := z) (m := n - 1) (k := 1) (x := 0) ⟨by omega, fun j hj => by rw [show j = 0 by omega]; exact Int.le_refl _, fun j hj => absurd hj (by omega)⟩
  rw [show 1 + (n - 1) = n by omega] at this
  exact this
theorem imin_z {a b : Int} (h1 : -1000000 ≤ a ∧ a ≤ 1000000) (h2 : -1000000 ≤ b ∧ b ≤ 1000000) : imin (zI a) (zI b) = zI (min a b) := by
  unfold imin
  simp only [zI_lt h2 h1]
  by_cases q : b < a
  · rw [if_pos q, show min a b = b by omega]
  · rw [if_neg q, show min a b = a by omega]
theorem k_step {p : Int32} {x fa : Nat} {M : Mem} {z : Nat → Int} (hx : x < 10) (hM : ∀ b, b < 10 → M 43 b = zI (z b)) (hzb : ∀ b, b < 10 → -10000 ≤ z b ∧ z b ≤ 10000) {a b : Nat} (ha : fmx z a 10) (hb : fmx (neg z) b 10) : bk_payment_L29 30 p (payK p) (fa + 1) (nI x) (nI x) M = if 0 < min (z a) (-z b) then (if nI x = p then some (nI (10000 * b + 100 * a) + irem (zI (min (z a) (-z b))) (nI 100), M) else bk_payment_L29 30 p (payK p) fa (nI (x + 1)) (nI (x + 1)) (wr (wr M 43 a (M 43 a - zI (min (z a) (-z b)))) 43 b (wr M 43 a (M 43 a - zI (min (z a) (-z b))) 43 b + zI (min (z a) (-z b))))) else payK p (nI x) M := by
  have ea : hi z 0 1 9 = a := by
    have h : fmx z (hi z 0 1 9) 10 := hi_fmx (n := 10) (by omega)
    rcases Nat.lt_trichotomy (hi z 0 1 9) a with q | q | q
    · have h1 := ha.2.2 _ q
      have h2 := h.2.1 a ha.1
      omega
    · exact q
    · have h1 := h.2.2 _ q
      have h2 := ha.2.1 _ h.1
      omega
  have eb : hi (neg z) 0 1 9 = b := by
    have h : fmx (neg z) (hi (neg z) 0 1 9) 10 := hi_fmx (n := 10) (by omega)
    rcases Nat.lt_trichotomy (hi (neg z) 0 1 9) b with q | q | q
    · have h1 := hb.2.2 _ q
      have h2 := h.2.1 b hb.1
      omega
    · exact q
    · have h1 := h.2.2 _ q
      have h2 := hb.2.1 _ h.1
      omega
  have h1 := ha.1
  have h2 := hb.1
  have z1 := hzb a h1
  have z2 := hzb b h2
  have g1 : bk_greatest 30 M = some (nI a) := by
    have := k_hi_L hM hzb (K := fun v => some v) 9 1 0 FU (by omega) (by omega) (by rw [FUe]; omega)
    rw [ea] at this
    exact this
  have g2 : bk_least 30 M = some (nI b) := by
    have := k_lo_L hM hzb (K := fun v => some v) 9 1 0 FU (by omega) (by omega) (by rw [FUe]; omega)
    rw [eb] at this
    exact this
  have e1 : M (30 + 13) a = zI (z a) := hM a h1
  have e2 : M (30 + 13) b = zI (z b) := hM b h2
  rw [bk_payment_L29, g1, g2]
  simp (disch := omega) only [n_lit, n_lt, if_pos, Option.bind_some, chk_in, n_cl, lt1_ap, n_add, n_mul]
  rw [e1, e2, zI_neg, imin_z (by omega) (by omega), zI_0]
  simp (disch := omega) only [zI_lt]
theorem r_step {p : Int32} {n x fb : Nat} {Y : Mem} {z : Nat → Int} (hY : ∀ b, b < n → Y 12 b = zI (z b)) (h1 : Y 1 1 = nI n) (hz : BZ z n) (hn0 : 0 < n) (hpos : 0 < z (hi z 0 1 (n - 1))) (hneg : 0 < neg z (hi (neg z) 0 1 (n - 1))) : md_clear_L56 p (payK p) (fb + 1) (nI x) (nI 1) Y = if nI x = p then some (nI (10000 * hi (neg z) 0 1 (n - 1) + 100 * hi z 0 1 (n - 1)) + irem (zI (min (z (hi z 0 1 (n - 1))) (-z (hi (neg z) 0 1 (n - 1))))) (nI 100), Y) else md_clear_L56 p (payK p) fb (nI (x + 1)) (nI 1) (wr (wr Y 12 (hi z 0 1 (n - 1)) (Y 12 (hi z 0 1 (n - 1)) - zI (min (z (hi z 0 1 (n - 1))) (-z (hi (neg z) 0 1 (n - 1)))))) 12 (hi (neg z) 0 1 (n - 1)) (wr Y 12 (hi z 0 1 (n - 1)) (Y 12 (hi z 0 1 (n - 1)) - zI (min (z (hi z 0 1 (n - 1))) (-z (hi (neg z) 0 1 (n - 1))))) 12 (hi (neg z) 0 1 (n - 1)) + zI (min (z (hi z 0 1 (n - 1))) (-z (hi (neg z) 0 1 (n - 1)))))) := by
  obtain ⟨hn10, hz0, hzs, hzb⟩ := hz
  have la := (hi_fmx (z := z) hn0).1
  have lb := (hi_fmx (z := neg z) hn0).1
  rw [md_clear_L56, if_neg (by decide), r_hl hY hn10 hn0 h1 hzb]
  have en : ∀ k, neg z k = -z k := fun _ => rfl
  rw [en] at hneg
  revert la lb hpos hneg
  generalize hi z 0 1 (n - 1) = a
  generalize hi (neg z) 0 1 (n - 1) = b
  intro hpos hneg la lb
  have za := hzb a (by omega)
  have zb := hzb b (by omega)
  have ya := hY a la
  have yb := hY b lb
  have J : ∀ w, md_clear_J215 p (fun a2 a3 aM => md_clear_L56 p (payK p) fb a2 a3 aM) (payK p) (nI x) (nI 1) (nI a) (nI b) w Y = if nI x = p then some (nI (10000 * b + 100 * a) + irem w (nI 100), Y) else md_clear_L56 p (payK p) fb (nI (x + 1)) (nI 1) (wr (wr Y 12 a (Y 12 a - w)) 12 b (wr Y 12 a (Y 12 a - w) 12 b + w)) := fun w => by
    unfold md_clear_J215
    simp (disch := omega) only [n_lit, chk_in, n_cl, lt1_ap, n_add, n_mul]
  unfold md_clear_J171
  simp (disch := omega) only [n_lit, n_ng, if_false, chk_in, n_cl]
  rw [ya, yb, zI_neg, zI_0]
  simp (disch := omega) only [zI_lt, if_pos]
  rw [if_neg (show ¬ nI 1 = zI 0 by decide), J, J, ← ya]
  by_cases q : z a < -z b
  · rw [if_pos q, ya, show min (z a) (-z b) = z a by omega]
  · rw [if_neg q, ya, show min (z a) (-z b) = -z b by omega]
theorem pay_L {p : Int32} {n : Nat} : ∀ d x (M Y : Mem) (z : Nat → Int) fa fb, x + d = 10 → cz z 10 ≤ d → (∀ b, b < 10 → M 43 b = zI (z b)) → (∀ b, b < n → Y 12 b = zI (z b)) → Y 1 1 = nI n → BZ z n →
    ∃ v M' Y', bk_payment_L29 30 p (payK p) (fa + d + 1) (nI x) (nI x) M = some (v, M') ∧ md_clear_L56 p (payK p) (fb + d + 2) (nI x) (nI 1) Y = some (v, Y') ∧ (∀ r i, ¬ r = 43 → M' r i = M r i) ∧ (∀ r i, ¬ r = 12 → Y' r i = Y r i) := by
  intro d
  induction d with
  | zero =>
    intro x M Y z fa fb hx hc hM hY hn hz
    have all0 := cz_0 (z := z) (n := 10) (by omega)
    refine ⟨_, M, Y, ?_, (r_stop (fb := fb + 0) hY hn hz fun b hb => by rw [all0 b (by have := hz.1; omega)]; exact Int.le_refl _).trans (payK_v _ _ _), fun _ _ _ => rfl, fun _ _ _ => rfl⟩
    rw [bk_payment_L29, if_neg (by rw [n_lit, n_lt (by omega) (by omega)]; omega)]
    exact payK_v _ _ _
  | succ d ih =>
    intro x M Y z fa fb hx hc hM hY hn hz
    obtain ⟨hn10, hz0, hzs, hzb⟩ := id hz
    have ha : fmx z (hi z 0 1 9) 10 := hi_fmx (n := 10) (by omega)
    have hb : fmx (neg z) (hi (neg z) 0 1 9) 10 := hi_fmx (n := 10) (by omega)
    have ks := k_step (p := p) (fa := fa + d + 1) (show x < 10 by omega) hM hzb ha hb
    have en : ∀ k, neg z k = -z k := fun _ => rfl
    rw [show fa + (d + 1) + 1 = fa + d + 1 + 1 by omega, ks]
    by_cases q : 0 < z (hi z 0 1 9)
    · have hb0 : 0 < neg z (hi (neg z) 0 1 9) := by
        refine Classical.byContradiction fun q2 => ?_
        have h1 : ∀ k, k < 10 → neg z k ≤ 0 := fun k hk => by
          have := hb.2.1 k hk
          omega
        have h2 := (sI_np h1).2 (by rw [sI_neg, hzs]; rfl) (hi z 0 1 9) ha.1
        rw [en] at h2
        omega
      have hlt : hi z 0 1 9 < n := by
        refine Classical.byContradiction fun q2 => ?_
        have := hz0 (hi z 0 1 9) (by omega) ha.1
        omega
      have hltb : hi (neg z) 0 1 9 < n := by
        refine Classical.byContradiction fun q2 => ?_
        have := hz0 (hi (neg z) 0 1 9) (by omega) hb.1
        rw [en] at hb0
        omega
      have hn0 : 0 < n := by omega
      have xa := hi_fmx (z := z) hn0
      have xb := hi_fmx (z := neg z) hn0
      have hpos : 0 < z (hi z 0 1 (n - 1)) := by
        have := xa.2.1 _ hlt
        omega
      have hneg : 0 < neg z (hi (neg z) 0 1 (n - 1)) := by
        have := xb.2.1 _ hltb
        omega
      have ea : hi z 0 1 9 = hi z 0 1 (n - 1) := fmx_one xa ha hn10 hz0 hpos
      have eb : hi (neg z) 0 1 9 = hi (neg z) 0 1 (n - 1) := fmx_one xb hb hn10 (fun b h1 h2 => by rw [en, hz0 b h1 h2]; rfl) hneg
      have rs := r_step (p := p) (fb := fb + d + 2) (x := x) hY hn hz hn0 hpos hneg
      rw [show fb + (d + 1) + 2 = fb + d + 2 + 1 by omega, rs, ea, eb]
      have la := xa.1
      have lb := xb.1
      have lm := xb.2.1
      rw [en] at hneg
      revert la lb hpos hneg
      generalize hi z 0 1 (n - 1) = a
      generalize hi (neg z) 0 1 (n - 1) = b
      intro hpos hneg la lb
      have hab : ¬ a = b := fun e => by rw [e] at hpos; omega
      have za := hzb a (by omega)
      have zb := hzb b (by omega)
      have pay : ∃ w : Int, w = min (z a) (-z b) ∧ 0 < w ∧ w ≤ z a ∧ w ≤ -z b ∧ (w = z a ∨ w = -z b) := ⟨_, rfl, by omega, by omega, by omega, by omega⟩
      obtain ⟨w, ew, w0, w1, w2, w3⟩ := pay
      rw [← ew, if_pos w0]
      by_cases qp : nI x = p
      · rw [if_pos qp, if_pos qp]
        exact ⟨_, M, Y, rfl, rfl, fun _ _ _ => rfl, fun _ _ _ => rfl⟩
      · rw [if_neg qp, if_neg qp]
        have ez : ∀ k, ¬ k = a → ¬ k = b → payZ z a b w k = z k := fun k h1 h2 => by unfold payZ; rw [if_neg h2, if_neg h1]
        have eza : payZ z a b w a = z a - w := by unfold payZ; rw [if_neg hab, if_pos rfl]
        have ezb : payZ z a b w b = z b + w := by unfold payZ; rw [if_pos rfl]
        have hBZ : BZ (payZ z a b w) n := by
          refine ⟨hn10, fun k h1 h2 => ?_, ?_, fun k hk => ?_⟩
          · rw [ez k (by omega) (by omega)]
            exact hz0 k h1 h2
          · have s1 := sI_up (z := z) (w := fun k => if k = a then z a - w else z k) (a := a) (d := -w) (n := 10) (fun k _ h => if_neg h) (by omega) (by rw [if_pos rfl]; omega)
            have s2 := sI_up (z := fun k => if k = a then z a - w else z k) (w := payZ z a b w) (a := b) (d := w) (n := 10) (fun k _ h => by
              show payZ z a b w k = if k = a then z a - w else z k
              unfold payZ
              rw [if_neg h]) (by omega) (by rw [ezb, if_neg (fun e => hab e.symm)])
            omega
          · by_cases h1 : k = a
            · rw [h1, eza]; omega
            · by_cases h2 : k = b
              · rw [h2, ezb]; omega
              · rw [ez k h1 h2]
                exact hzb k hk
        have hcz : cz (payZ z a b w) 10 ≤ d := by
          have hk0 : ∀ k, k < 10 → z k = 0 → payZ z a b w k = 0 := fun k _ hk => by
            rw [ez k (fun e => by rw [e] at hk; omega) (fun e => by rw [e] at hk; omega)]
            exact hk
          rcases w3 with w3 | w3
          · have := cz_lt (z := z) (w := payZ z a b w) (a := a) (n := 10) hk0 (by omega) (by omega) (by rw [eza]; omega)
            omega
          · have := cz_lt (z := z) (w := payZ z a b w) (a := b) (n := 10) hk0 (by omega) (by omega) (by rw [ezb]; omega)
            omega
        have hM2 : ∀ k, k < 10 → wr (wr M 43 a (M 43 a - zI w)) 43 b (wr M 43 a (M 43 a - zI w) 43 b + zI w) 43 k = zI (payZ z a b w k) := fun k hk => by
          by_cases h2 : k = b
          · rw [h2, wr_eq, wr_ne (by omega), hM b (by omega), zI_add, ezb]
          · rw [wr_ne (by omega)]
            by_cases h1 : k = a
            · rw [h1, wr_eq, hM a (by omega), zI_sub, eza]
            · rw [wr_ne (by omega), hM k hk, ez k h1 h2]
        have hY2 : ∀ k, k < n → wr (wr Y 12 a (Y 12 a - zI w)) 12 b (wr Y 12 a (Y 12 a - zI w) 12 b + zI w) 12 k = zI (payZ z a b w k) := fun k hk => by
          by_cases h2 : k = b
          · rw [h2, wr_eq, wr_ne (by omega), hY b (by omega), zI_add, ezb]
          · rw [wr_ne (by omega)]
            by_cases h1 : k = a
            · rw [h1, wr_eq, hY a (by omega), zI_sub, eza]
            · rw [wr_ne (by omega), hY k hk, ez k h1 h2]
        obtain ⟨v, M', Y', i1, i2, i3, i4⟩ := ih (x + 1) _ _ (payZ z a b w) fa fb (by omega) hcz hM2 hY2 (by rw [wr_ne (by omega), wr_ne (by omega)]; exact hn) hBZ
        exact ⟨v, M', Y', i1, i2, fun r i hr => by rw [i3 r i hr, wr_ne (by omega), wr_ne (by omega)], fun r i hr => by rw [i4 r i hr, wr_ne (by omega), wr_ne (by omega)]⟩
    · have hle : ∀ b, b < n → z b ≤ 0 := fun b hb2 => by
        have := ha.2.1 b (by omega)
        omega
      rw [if_neg (by omega)]
      exact ⟨_, M, Y, payK_v _ _ _, (r_stop (fb := fb + (d + 1)) hY hn hz hle).trans (payK_v _ _ _), fun _ _ _ => rfl, fun _ _ _ => rfl⟩
theorem kb_L {c : Nat → Nat} {T : Nat} {p1 : Int32} (hT : WB T c) (hn : c 1 ≤ 10) {K : Mem → Option (Int32 × Mem)} : ∀ m k fu (M : Mem), k + m = 10 → m < fu → XB 30 M c → ∃ M', bk_payment_L2 30 p1 K fu (nI k) M = K M' ∧ (∀ b, k ≤ b → b < 10 → M' 43 b = zI (bal c b (c 1))) ∧ (∀ r i, ¬ (r = 43 ∧ k ≤ i) → M' r i = M r i)
  | 0, k, 0, M, _, hf => absurd hf (by omega)
  | 0, k, fu + 1, M, hk, _ => fun _ => by
    refine ⟨M, ?_, fun s h1 h2 => absurd h2 (by omega), fun r i _ => rfl⟩
    rw [bk_payment_L2]
    simp (disch := omega) only [n_lit, n_lt, if_neg]
  | m + 1, k, 0, M, _, hf => absurd hf (by omega)
  | m + 1, k, fu + 1, M, hk, hf => fun hB => by
    obtain ⟨M', e1, e2, e3⟩ := kb_L hT hn (p1 := p1) (K := K) m (k + 1) fu (wr M 43 k (zI (bal c k (c 1)))) (by omega) (by omega) (XB_cong hB fun r i _ _ => wr_ne (by omega))
    refine ⟨M', ?_, fun b h1 h2 => ?_, fun r i hr => ?_⟩
    · rw [bk_payment_L2, k_bal hB hT hn (by omega), ← e1]
      simp (disch := omega) only [n_lit, n_lt, if_pos, Option.bind_some, chk_in, n_cl, n_add, lt1_ap]
    · rcases Nat.eq_or_lt_of_le h1 with q | q
      · subst q
        rw [e3 _ _ (by omega), wr_eq]
      · exact e2 b q h2
    · rw [e3 r i (by omega), wr_ne (by omega)]
theorem rb_L {c : Nat → Nat} {p1 : Int32} (hw : WR c) {K : Mem → Option (Int32 × Mem)} : ∀ m k fu (M : Mem), k + m = c 1 → m < fu → EY M c → ∃ M', md_clear_L25 p1 K fu (nI k) M = K M' ∧ (∀ b, k ≤ b → b < c 1 → M' 12 b = zI (bal c b (c 1))) ∧ (∀ r i, ¬ (r = 12 ∧ k ≤ i) → M' r i = M r i)
  | 0, k, 0, M, _, hf => absurd hf (by omega)
  | 0, k, fu + 1, M, hk, _ => fun h => by
    have h10 := WR_n hw
    refine ⟨M, ?_, fun s h1 h2 => absurd h2 (by omega), fun r i _ => rfl⟩
    rw [md_clear_L25, EY_n h (i := 1) (by omega) (by omega)]
    simp (disch := omega) only [n_lit, n_lt, if_neg]
  | m + 1, k, 0, M, _, hf => absurd hf (by omega)
  | m + 1, k, fu + 1, M, hk, hf => fun h => by
    have h10 := WR_n hw
    obtain ⟨M', e1, e2, e3⟩ := rb_L hw (p1 := p1) (K := K) m (k + 1) fu (wr M 12 k (zI (bal c k (c 1)))) (by omega) (by omega) (EY_fr h fun i => wr_ne (by omega))
    refine ⟨M', ?_, fun b h1 h2 => ?_, fun r i hr => ?_⟩
    · rw [md_clear_L25, EY_n h (i := 1) (by omega) (by omega), r_bal h hw (by omega), ← e1]
      simp (disch := omega) only [n_lit, n_lt, if_pos, Option.bind_some, chk_in, n_cl, n_add, lt1_ap]
    · rcases Nat.eq_or_lt_of_le h1 with q | q
      · subst q
        rw [e3 _ _ (by omega), wr_eq]
      · exact e2 b q h2
    · rw [e3 r i (by omega), wr_ne (by omega)]
theorem bal_bd {c : Nat → Nat} {T b : Nat} (hb : WB T c) (h : b < 10) : ∀ k : Nat, k ≤ 10 → -((k : Int) * (T : Int)) ≤ bal c b k ∧ bal c b k ≤ (k : Int) * (T : Int)
  | 0, _ => by unfold bal; omega
  | k + 1, hk => by
    have ih := bal_bd hb h k (by omega)
    have h1 := (hb.2.2.2.2.2.2 k b (by omega) h).1
    have h2 := (hb.2.2.2.2.2.2 b k h (by omega)).1
    have e : ((k + 1 : Nat) : Int) * (T : Int) = (k : Int) * T + T := by rw [Int.natCast_add, Int.add_mul]; omega
    rw [e]
    show _ ≤ bal c b k + ((pu c k b : Int) - (pu c b k : Int)) ∧ bal c b k + ((pu c k b : Int) - (pu c b k : Int)) ≤ _
    omega
theorem bal_BZ {c : Nat → Nat} {T : Nat} (hw : WR c) (hb : WB T c) (hT : T ≤ 520) : BZ (fun b => bal c b (c 1)) (c 1) := by
  have h10 := WR_n hw
  have hz : ∀ b, c 1 ≤ b → b < 10 → bal c b (c 1) = 0 := fun b h1 h2 => by
    have : ∀ k, k ≤ 10 → bal c b k = 0 := by
      intro k
      induction k with
      | zero => intro _; rfl
      | succ k ih =>
        intro hk
        have e1 := (hb.2.2.2.2.2.2 k b (by omega) h2).2 (by omega)
        have e2 := (hb.2.2.2.2.2.2 b k h2 (by omega)).2 (by omega)
        show bal c b k + ((pu c k b : Int) - (pu c b k : Int)) = 0
        rw [ih (by omega), e1, e2]
        rfl
    exact this _ (by omega)
  refine ⟨h10, hz, ?_, fun b hb2 => ?_⟩
  · have h1 := bal_sum (c := c) 10
    rw [← h1]
    exact sI_cong fun k hk => (bal_big hb hk h10 (Nat.le_refl 10)).symm
  · have h1 := bal_bd hb hb2 10 (Nat.le_refl 10)
    rw [bal_big hb hb2 h10 (Nat.le_refl 10)] at h1
    have : ((10 : Nat) : Int) * (T : Int) = 10 * (T : Int) := rfl
    show -10000 ≤ bal c b (c 1) ∧ bal c b (c 1) ≤ 10000
    omega
theorem m_clear {T : Nat} {X Y : Mem} {c : Nat → Nat} (h : SV T X Y c) (hT : T + 1 ≤ 520) (p : Int32) : ∃ e v X' u Y', rf_clear p X = some (e, v, X') ∧ md_clear p Y = some (u, Y') ∧ ((e = 0 ∧ Y' 0 0 = 0 ∧ v = u) ∨ (¬ e = 0 ∧ e = 1 ∧ Y' 0 0 = 1)) ∧ (∀ r i, ¬ r = 43 → X' r i = X r i) ∧ (∀ r i, ¬ r = 12 → ¬ (r = 0 ∧ i = 0) → Y' r i = Y r i) := by
  obtain ⟨hR, hB, hw, hb, hY, hz⟩ := id h
  have h10 := WR_n hw
  by_cases q : p < -1
  · refine ⟨1, 0, X, 0, wr Y 0 0 1, ?_, ?_, Or.inr ⟨by decide, rfl, wr_eq⟩, fun _ _ _ => rfl, fun r i _ hr => wr_ne hr⟩
    · unfold rf_clear
      rw [if_pos q]
    · unfold md_clear
      rw [if_pos q]
      rfl
  · have hBZ := bal_BZ hw hb (show T ≤ 520 by omega)
    have hE0 : EY (wr Y 0 0 (nI 0)) c := EY_fr hY fun i => wr_ne (by omega)
    obtain ⟨X1, a1, a2, a3⟩ := kb_L hb h10 (p1 := p) (K := fun M4 => bk_payment_L29 30 p (payK p) FU (nI 0) (nI 0) M4) 10 0 FU X (by omega) (by rw [FUe]; omega) hB
    obtain ⟨Y1, b1, b2, b3⟩ := rb_L hw (p1 := p) (K := fun M5 => md_clear_L56 p (payK p) FU (nI 0) (nI 1) M5) (c 1) 0 FU _ (by omega) (by rw [FUe]; omega) hE0
    have e1 : FU = 999989 + 10 + 1 := rfl
    have e2 : FU = 999988 + 10 + 2 := rfl
    obtain ⟨v, M', Y', i1, i2, i3, i4⟩ := pay_L (p := p) 10 0 X1 Y1 (fun b => bal c b (c 1)) 999989 999988 (by omega) (by
      have : ∀ (z : Nat → Int) n, cz z n ≤ n := fun z n => by
        induction n with
        | zero => exact Nat.le_refl _
        | succ n ih => unfold cz; split <;> omega
      exact this _ _) (fun b hb2 => a2 b (by omega) hb2) (fun b hb2 => b2 b (by omega) hb2) (by rw [b3 _ _ (by omega), EY_n hE0 (i := 1) (by omega) (by omega)]) hBZ
    rw [← e1] at i1
    rw [← e2] at i2
    refine ⟨0, v, M', v, Y', ?_, ?_, Or.inl ⟨rfl, ?_, rfl⟩, fun r i hr => by rw [i3 r i hr, a3 r i (by omega)], fun r i hr hr2 => by rw [i4 r i hr, b3 r i (by omega), wr_ne hr2]⟩
    · unfold rf_clear bk_payment
      rw [if_neg q]
      have a1' := a1.trans i1
      rw [show bk_payment_L2 30 p (fun M4 => bk_payment_L29 30 p (fun v2_9 M11 => (if p = (-1 : Int32) then some (v2_9, M11) else some ((-1 : Int32), M11))) FU ((0 : Int32)) ((0 : Int32)) M4) FU ((0 : Int32)) X = some (v, M') from a1']
      rfl
    · unfold md_clear md_clear_J11
      rw [if_neg q]
      simp only [lt1_ap]
      rw [wr_eq, if_neg (show ¬ (0 : Int32) < 0 from Int32.lt_irrefl)]
      exact b1.trans i2
    · rw [i4 _ _ (by omega), b3 _ _ (by omega), wr_eq]
      rfl
