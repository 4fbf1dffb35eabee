/-! ways through the states -/
abbrev gl (g s : Nat) : Prop := (s / 2) &&& g = g
/-- m moves and a minutes lead from s to where g is over -/
def wk (c : Nat → Nat) (g : Nat) : Nat → Nat → Nat → Prop
  | 0, s, a => gl g s ∧ a = 0
  | m + 1, s, a => ∃ k a', vl c s k ∧ wk c g m (nx s k) a' ∧ a = tk c s k + a'
/-- the states -/
def sts (c : Nat → Nat) (s : Nat) : Prop := s / 2 < 2 ^ c 1
theorem sts_2048 {c : Nat → Nat} {s : Nat} (hw : WR c) (h : sts c s) : s < 2048 := by
  have h1 := pw_10 (WR_n hw)
  unfold sts at h
  omega
theorem tk_pos {c : Nat → Nat} {s k : Nat} (h : vl c s k) : 1 ≤ tk c s k := Nat.pos_of_ne_zero h.2
theorem wk_bd {c : Nat → Nat} {g : Nat} (hw : WR c) : ∀ {m s a : Nat}, wk c g m s a → m ≤ a ∧ a ≤ 69 * m
  | 0, s, a, h => by
    have := h.2
    omega
  | m + 1, s, a, h => by
    obtain ⟨k, a', h1, h2, h3⟩ := h
    have ih := wk_bd hw h2
    have h4 := tk_pos h1
    have h5 := tk_le hw s k
    omega
/-- the way, step by step -/
theorem wk_seq {c : Nat → Nat} {g : Nat} (hw : WR c) : ∀ {m s a : Nat}, sts c s → wk c g m s a → ∃ f r : Nat → Nat, f 0 = s ∧ r 0 = a ∧ (∀ i, i ≤ m → sts c (f i) ∧ wk c g (m - i) (f i) (r i)) ∧ (∀ i j, i ≤ j → j ≤ m → r j ≤ r i) ∧ (∀ i, i ≤ m → ∀ m' a', wk c g m' (f i) a' → wk c g (i + m') s (a - r i + a'))
  | 0, s, a, hs, h => ⟨fun _ => s, fun _ => a, rfl, rfl, fun i hi => ⟨hs, by rw [show 0 - i = 0 by omega]; exact h⟩, fun i j _ _ => Nat.le_refl _, fun i hi m' a' h' => by
    rw [show i = 0 by omega, Nat.sub_self, Nat.zero_add, Nat.zero_add]
    exact h'⟩
  | m + 1, s, a, hs, h => by
    obtain ⟨k, a', h1, h2, h3⟩ := id h
    obtain ⟨f, r, e1, e2, e3, e4, e5⟩ := wk_seq hw (nx_lt hw hs h1) h2
    refine ⟨fun i => match i with | 0 => s | i + 1 => f i, fun i => match i with | 0 => a | i + 1 => r i, rfl, rfl, fun i hi => ?_, fun i j hij hj => ?_, fun i hi m' a'' h' => ?_⟩
    · match i, hi with
      | 0, _ => exact ⟨hs, h⟩
      | i + 1, hi =>
        have := e3 i (by omega)
        rw [show m + 1 - (i + 1) = m - i by omega]
        exact this
    · match i, j, hij, hj with
      | 0, 0, _, _ => exact Nat.le_refl _
      | 0, j + 1, _, hj =>
        have := e4 0 j (by omega) (by omega)
        show r j ≤ a
        omega
      | i + 1, 0, hij, _ => exact absurd hij (by omega)
      | i + 1, j + 1, hij, hj => exact e4 i j (by omega) (by omega)
    · match i, hi, h' with
      | 0, _, h' =>
        rw [Nat.zero_add, show a - a + a'' = a'' by omega]
        exact h'
      | i + 1, hi, h' =>
        have h6 := e5 i (by omega) m' a'' h'
        have h7 := e4 0 i (by omega) (by omega)
        rw [show i + 1 + m' = (i + m') + 1 by omega]
        refine ⟨k, a' - r i + a'', h1, h6, ?_⟩
        show a - r i + a'' = _
        omega
/-- a way need not come twice to one state -/
theorem wk_short {c : Nat → Nat} {g : Nat} (hw : WR c) : ∀ {M m s a : Nat}, m ≤ M → sts c s → wk c g m s a → ∃ m' a', m' < 2048 ∧ m' ≤ m ∧ a' ≤ a ∧ wk c g m' s a'
  | M, m, s, a, hM, hs, h => by
    by_cases q : m < 2048
    · exact ⟨m, a, q, Nat.le_refl _, Nat.le_refl _, h⟩
    · obtain ⟨f, r, e1, e2, e3, e4, e5⟩ := wk_seq hw hs h
      obtain ⟨i, j, hij, hj, hf⟩ := fb_twice (m := 2048) (n := m + 1) (f := f) (fun i hi => sts_2048 hw (e3 i (by omega)).1) (by omega)
      have h1 := (e3 j (by omega)).2
      rw [← hf] at h1
      have h2 := e5 i (by omega) _ _ h1
      have h3 := e4 i j (by omega) (by omega)
      have h4 := e4 0 i (by omega) (by omega)
      match M, hM with
      | 0, hM => omega
      | M + 1, hM =>
        obtain ⟨m', a', g1, g2, g3, g4⟩ := wk_short hw (M := M) (m := i + (m - j)) (by omega) hs h2
        exact ⟨m', a', g1, by omega, by omega, g4⟩
/-- minutes first, or moves first -/
def key (bm : Bool) (a b : Nat) : Nat := if bm then 1000000000 * b + a else 1000000000 * a + b
def kc (bm : Bool) (a b : Nat) : Nat := if bm then 262144 * b + a else 4096 * a + b
theorem key_add (bm : Bool) (a b x y : Nat) : key bm (a + x) (b + y) = key bm a b + key bm x y := by
  unfold key
  split <;> omega
theorem kc_add (bm : Bool) (a b x y : Nat) : kc bm (a + x) (b + y) = kc bm a b + kc bm x y := by
  unfold kc
  split <;> omega
theorem key_mono {bm : Bool} {a b x y : Nat} (h1 : a ≤ x) (h2 : b ≤ y) : key bm a b ≤ key bm x y := by
  unfold key
  split <;> omega
theorem kc_mono {bm : Bool} {a b x y : Nat} (h1 : a ≤ x) (h2 : b ≤ y) : kc bm a b ≤ kc bm x y := by
  unfold kc
  split <;> omega
theorem key_inj {bm : Bool} {a b x y : Nat} (h1 : a < 1000000000) (h2 : b < 1000000000) (h3 : x < 1000000000) (h4 : y < 1000000000) (e : key bm a b = key bm x y) : a = x ∧ b = y := by
  unfold key at e
  cases bm
  · rw [if_neg (by decide), if_neg (by decide)] at e
    omega
  · rw [if_pos rfl, if_pos rfl] at e
    omega
theorem key_kc {bm : Bool} {a b x y : Nat} (h1 : a < 262144) (h2 : b < 4096) (h3 : x < 262144) (h4 : y < 4096) (e : key bm a b ≤ key bm x y) : kc bm a b ≤ kc bm x y := by
  unfold key at e
  unfold kc
  cases bm
  · rw [if_neg (by decide), if_neg (by decide)] at e
    rw [if_neg (by decide), if_neg (by decide)]
    omega
  · rw [if_pos rfl, if_pos rfl] at e
    rw [if_pos rfl, if_pos rfl]
    omega
theorem kc_inj {bm : Bool} {a b x y : Nat} (h1 : a < 262144) (h2 : b < 4096) (h3 : x < 262144) (h4 : y < 4096) (e : kc bm a b = kc bm x y) : a = x ∧ b = y := by
  unfold kc at e
  cases bm
  · rw [if_neg (by decide), if_neg (by decide)] at e
    omega
  · rw [if_pos rfl, if_pos rfl] at e
    omega
/-- the best way from s has a minutes and b moves -/
def opt (c : Nat → Nat) (g : Nat) (bm : Bool) (s a b : Nat) : Prop := wk c g b s a ∧ ∀ m' a', wk c g m' s a' → key bm a b ≤ key bm a' m'
theorem opt_bd {c : Nat → Nat} {g s a b : Nat} {bm : Bool} (hw : WR c) (hs : sts c s) (h : opt c g bm s a b) : b < 2048 ∧ a ≤ 69 * b ∧ b ≤ a := by
  obtain ⟨h1, h2⟩ := h
  have h4 := wk_bd hw h1
  refine ⟨?_, h4.2, h4.1⟩
  refine Classical.byContradiction fun q => ?_
  obtain ⟨m', a', g1, g2, g3, g4⟩ := wk_short hw (Nat.le_refl _) hs h1
  have h3 := h2 m' a' g4
  unfold key at h3
  cases bm
  · rw [if_neg (by decide), if_neg (by decide)] at h3
    omega
  · rw [if_pos rfl, if_pos rfl] at h3
    omega
theorem opt_one {c : Nat → Nat} {g s a b x y : Nat} {bm : Bool} (hw : WR c) (hs : sts c s) (h : opt c g bm s a b) (h2 : opt c g bm s x y) : a = x ∧ b = y := by
  have b1 := opt_bd hw hs h
  have b2 := opt_bd hw hs h2
  have e1 := h.2 _ _ h2.1
  have e2 := h2.2 _ _ h.1
  exact key_inj (bm := bm) (by omega) (by omega) (by omega) (by omega) (by omega)
theorem opt_kc {c : Nat → Nat} {g s a b : Nat} {bm : Bool} (hw : WR c) (hs : sts c s) (h : opt c g bm s a b) {m' a' : Nat} (hk : wk c g m' s a') : kc bm a b ≤ kc bm a' m' := by
  obtain ⟨m2, a2, g1, g2, g3, g4⟩ := wk_short hw (Nat.le_refl _) hs hk
  have b1 := opt_bd hw hs h
  have b2 := wk_bd hw g4
  have e1 := h.2 _ _ g4
  have e2 := key_kc (bm := bm) (show a < 262144 by omega) (by omega) (show a2 < 262144 by omega) (by omega) e1
  have e3 := kc_mono (bm := bm) g3 g2
  omega
theorem opt_ex {c : Nat → Nat} {g s m a : Nat} {bm : Bool} (h : wk c g m s a) : ∃ x y, opt c g bm s x y := by
  have : ∀ n, ∀ m a, wk c g m s a → key bm a m ≤ n → ∃ x y, opt c g bm s x y := by
    intro n
    induction n with
    | zero =>
      intro m a h hn
      exact ⟨a, m, h, fun m' a' _ => by omega⟩
    | succ n ih =>
      intro m a h hn
      by_cases q : ∃ m' a', wk c g m' s a' ∧ key bm a' m' < key bm a m
      · obtain ⟨m', a', q1, q2⟩ := q
        exact ih m' a' q1 (by omega)
      · exact ⟨a, m, h, fun m' a' h' => Nat.le_of_not_lt fun q2 => q ⟨m', a', h', q2⟩⟩
  exact this _ m a h (Nat.le_refl _)
theorem opt_goal {c : Nat → Nat} {g s : Nat} {bm : Bool} (h : gl g s) : opt c g bm s 0 0 := ⟨⟨h, rfl⟩, fun m' a' _ => key_mono (Nat.zero_le _) (Nat.zero_le _)⟩
theorem opt_goal0 {c : Nat → Nat} {g s a b : Nat} {bm : Bool} (hw : WR c) (hs : sts c s) (h : opt c g bm s a b) : gl g s ↔ b = 0 := by
  constructor
  · intro q
    exact (opt_one hw hs h (opt_goal q)).2
  · intro q
    subst q
    exact h.1.1
/-- a best way goes on by a best way -/
theorem opt_step {c : Nat → Nat} {g s a b : Nat} {bm : Bool} (h : opt c g bm s a b) (hg : ¬ gl g s) : ∃ k x y, vl c s k ∧ opt c g bm (nx s k) x y ∧ a = tk c s k + x ∧ b = y + 1 := by
  obtain ⟨h1, h2⟩ := h
  match b, h1, h2 with
  | 0, h1, _ => exact absurd h1.1 hg
  | b + 1, h1, h2 =>
    obtain ⟨k, x, e1, e2, e3⟩ := h1
    refine ⟨k, x, b, e1, ⟨e2, fun m' a' h' => ?_⟩, e3, rfl⟩
    have := h2 (m' + 1) (tk c s k + a') ⟨k, a', e1, h', rfl⟩
    have k1 := key_add bm x b (tk c s k) 1
    have k2 := key_add bm a' m' (tk c s k) 1
    rw [e3, Nat.add_comm (tk c s k) x, Nat.add_comm (tk c s k) a'] at this
    omega
theorem opt_le {c : Nat → Nat} {g s a b k x y : Nat} {bm : Bool} (h : opt c g bm s a b) (hv : vl c s k) (h2 : opt c g bm (nx s k) x y) : key bm a b ≤ key bm (x + tk c s k) (y + 1) := by
  have := h.2 (y + 1) (tk c s k + x) ⟨k, x, hv, h2.1, rfl⟩
  rw [Nat.add_comm (tk c s k) x] at this
  exact this
theorem opt_has {c : Nat → Nat} {g s k x y : Nat} {bm : Bool} (hv : vl c s k) (h2 : opt c g bm (nx s k) x y) : ∃ a b, opt c g bm s a b := opt_ex (m := y + 1) (a := tk c s k + x) ⟨k, x, hv, h2.1, rfl⟩
/-- no way leads there -/
def nway (c : Nat → Nat) (g s : Nat) : Prop := ∀ m a, ¬ wk c g m s a
theorem way_or {c : Nat → Nat} (g s : Nat) (bm : Bool) : nway c g s ∨ ∃ a b, opt c g bm s a b := by
  by_cases q : ∃ m a, wk c g m s a
  · obtain ⟨m, a, h⟩ := q
    exact Or.inr (opt_ex h)
  · exact Or.inl fun m a h => q ⟨m, a, h⟩
/-- the first move by which a best way goes on -/
def frst (c : Nat → Nat) (g : Nat) (bm : Bool) (s k : Nat) : Prop := (∃ a b x y, opt c g bm s a b ∧ vl c s k ∧ opt c g bm (nx s k) x y ∧ a = x + tk c s k ∧ b = y + 1) ∧ ∀ j, j < k → ¬ ∃ a b x y, opt c g bm s a b ∧ vl c s j ∧ opt c g bm (nx s j) x y ∧ a = x + tk c s j ∧ b = y + 1
theorem frst_one {c : Nat → Nat} {g s k j : Nat} {bm : Bool} (h : frst c g bm s k) (h2 : frst c g bm s j) : k = j := by
  rcases Nat.lt_trichotomy k j with q | q | q
  · exact absurd h.1 (h2.2 k q)
  · exact q
  · exact absurd h2.1 (h.2 j q)
