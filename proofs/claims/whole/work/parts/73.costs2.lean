/-! the reference's costs: all states, again and again -/
def PS (c : Nat → Nat) (g : Nat) (bm : Bool) (A0 B0 : Nat → Nat) (i : Nat) (fl : Bool) (M : Mem) (A B : Nat → Nat) : Prop := BM c M A B ∧ BI c g bm A B ∧ (∀ u, sts c u → key bm (A u) (B u) ≤ key bm (A0 u) (B0 u)) ∧ (fl = false → ∀ u, sts c u → A u = A0 u ∧ B u = B0 u) ∧ (fl = true → ∃ u, sts c u ∧ key bm (A u) (B u) < key bm (A0 u) (B0 u)) ∧ (∀ u, u < i → sts c u → ∀ k, vl c u k → B0 (nx u k) < 100000000 → key bm (A u) (B u) ≤ key bm (A0 (nx u k) + tk c u k) (B0 (nx u k) + 1))
theorem rp_L {c : Nat → Nat} {T g : Nat} {bm : Bool} {A0 B0 : Nat → Nat} {p1 : Int32} (hw : WR c) (hb : WB T c) (hT : T ≤ 520) (h0 : BI c g bm A0 B0) {K : Int32 → Mem → Option Mem} : ∀ m i fu (M : Mem) A B fl, i + m = 2 * 2 ^ c 1 → m < fu → EY M c → PS c g bm A0 B0 i fl M A B → ∃ f2 M' A' B', md_costs_L91 p1 (bI bm) (nI (2 * 2 ^ c 1)) K fu (bI fl) (nI i) M = K (bI f2) M' ∧ PS c g bm A0 B0 (2 * 2 ^ c 1) f2 M' A' B' ∧ EY M' c ∧ (∀ r i, ¬ (r = 0 ∧ i = 17) → ¬ r = 6 → ¬ r = 7 → M' r i = M r i)
  | 0, i, 0, _, _, _, _, _, hf => absurd hf (by omega)
  | 0, i, fu + 1, M, A, B, fl, hk, _ => fun hE hP => by
    have h10 := pw_10 (WR_n hw)
    refine ⟨fl, M, A, B, ?_, (show i = 2 * 2 ^ c 1 by omega) ▸ hP, hE, fun _ _ _ _ _ => rfl⟩
    rw [md_costs_L91]
    simp (disch := omega) only [n_lit, n_lt, if_neg]
  | m + 1, i, 0, _, _, _, _, _, hf => absurd hf (by omega)
  | m + 1, i, fu + 1, M, A, B, fl, hk, hf => fun hE hP => by
    have h10 := pw_10 (WR_n hw)
    obtain ⟨hM, hI, hle, hf0, hf1, hD⟩ := hP
    have hs : sts c i := by unfold sts; omega
    have m1 := (hM i hs).2
    have bs : B i ≤ 100000000 := by
      rcases BI_cases hI hs with q | q <;> omega
    by_cases q : B i = 0
    · have hA0 : A i = 0 := by
        have h1 := (BI_bd hw hI hs (by omega)).2.2.1
        rw [q] at h1
        exact h1.2
      obtain ⟨f3, M', A', B', i1, i2, i3, i4⟩ := rp_L hw hb hT h0 (p1 := p1) (K := K) m (i + 1) fu M A B fl (by omega) (by omega) hE ⟨hM, hI, hle, hf0, hf1, fun u hu hsu k hv hB => by
        by_cases e : u = i
        · rw [e, q, hA0]
          exact Nat.le_trans (key_mono (Nat.zero_le _) (Nat.zero_le _)) (Nat.le_refl _)
        · exact hD u (by omega) hsu k hv hB⟩
      refine ⟨f3, M', A', B', ?_, i2, i3, i4⟩
      rw [md_costs_L91, ← i1]
      simp (disch := omega) only [n_lit, n_lt, if_pos, chk_in, n_cl, n_add]
      rw [if_pos (show M 7 i = nI 0 by rw [m1, q])]
    · have hg : ¬ gl g i := fun e => q (hI.1 i hs e).2
      obtain ⟨f2, M1, A1, B1, e1, ⟨a1, a2, a3, a4, a5, a6, a7⟩, e3, e4⟩ := r_lowers hw hb hT hs hg hE hM hI
      obtain ⟨f3, M', A', B', i1, i2, i3, i4⟩ := rp_L hw hb hT h0 (p1 := p1) (K := K) m (i + 1) fu M1 A1 B1 (fl || f2) (by omega) (by omega) e3 ⟨a1, a2, fun u hu => by
        by_cases e : u = i
        · rw [e]
          exact Nat.le_trans a4 (hle i hs)
        · rw [(a3 u e).1, (a3 u e).2]
          exact hle u hu, fun e u hu => by
        rw [Bool.or_eq_false_iff] at e
        by_cases e5 : u = i
        · rw [e5, (a5 e.2).1, (a5 e.2).2]
          exact hf0 e.1 i hs
        · rw [(a3 u e5).1, (a3 u e5).2]
          exact hf0 e.1 u hu, fun e => by
        cases hf2 : f2
        · rw [hf2, Bool.or_false] at e
          obtain ⟨u, hu, hk⟩ := hf1 e
          refine ⟨u, hu, ?_⟩
          by_cases e5 : u = i
          · rw [e5, (a5 hf2).1, (a5 hf2).2, ← e5]
            exact hk
          · rw [(a3 u e5).1, (a3 u e5).2]
            exact hk
        · exact ⟨i, hs, Nat.lt_of_lt_of_le (a6 hf2) (hle i hs)⟩, fun u hu hsu k hv hB => by
        by_cases e : u = i
        · subst e
          have hn := nx_lt hw hsu hv
          have b0 := BI_bd hw h0 hn hB
          have hB2 : B (nx u k) < 100000000 := key_fin (hle _ hn) (by omega) (by omega) (BI_cases hI hn)
          have h1 := a7 k hv.1 hv hB2
          have h2 := hle _ hn
          have k1 := key_add bm (A (nx u k)) (B (nx u k)) (tk c u k) 1
          have k2 := key_add bm (A0 (nx u k)) (B0 (nx u k)) (tk c u k) 1
          omega
        · rw [(a3 u e).1, (a3 u e).2]
          exact hD u (by omega) hsu k hv hB⟩
      refine ⟨f3, M', A', B', ?_, i2, i3, fun r j a b d => by rw [i4 r j a b d, e4 r j a b d]⟩
      rw [md_costs_L91, ← i1]
      simp (disch := omega) only [n_lit, n_lt, if_pos, chk_in, n_cl, n_add]
      rw [if_neg (show ¬ M 7 i = nI 0 by rw [m1, n_eq (by omega) (by omega)]; exact q), e1]
      unfold bnd2
      dsimp only
      cases f2
      · cases fl
        · rfl
        · rfl
      · cases fl
        · rfl
        · rfl
def optF (c : Nat → Nat) (g : Nat) (bm : Bool) (A B : Nat → Nat) : Prop := ∀ s, sts c s → (nway c g s ∧ B s = 100000000) ∨ (B s < 10000000 ∧ A s < 10000000 ∧ opt c g bm s (A s) (B s))
def AL (c : Nat → Nat) (g : Nat) (bm : Bool) (A B : Nat → Nat) (r : Nat) : Prop := ∀ m s a, m ≤ r → sts c s → wk c g m s a → B s < 100000000 ∧ key bm (A s) (B s) ≤ key bm a m
theorem AL_0 {c : Nat → Nat} {g : Nat} {bm : Bool} {A B : Nat → Nat} (hI : BI c g bm A B) {s a : Nat} (hs : sts c s) (h : wk c g 0 s a) : B s < 100000000 ∧ key bm (A s) (B s) ≤ key bm a 0 := by
  have h1 := hI.1 s hs h.1
  rw [h1.1, h1.2, h.2]
  exact ⟨by omega, Nat.le_refl _⟩
theorem AL_up {c : Nat → Nat} {g : Nat} {bm : Bool} {A B A0 B0 : Nat → Nat} (hw : WR c) (h0 : BI c g bm A0 B0) (hI : BI c g bm A B) (hD : ∀ u, sts c u → ∀ k, vl c u k → B0 (nx u k) < 100000000 → key bm (A u) (B u) ≤ key bm (A0 (nx u k) + tk c u k) (B0 (nx u k) + 1)) {m s a : Nat} (hs : sts c s) (h : wk c g (m + 1) s a) (ih : ∀ k a', vl c s k → wk c g m (nx s k) a' → B0 (nx s k) < 100000000 ∧ key bm (A0 (nx s k)) (B0 (nx s k)) ≤ key bm a' m) : B s < 100000000 ∧ key bm (A s) (B s) ≤ key bm a (m + 1) := by
  obtain ⟨k, a', h1, h2, h3⟩ := h
  obtain ⟨i1, i2⟩ := ih k a' h1 h2
  have hn := nx_lt hw hs h1
  have b0 := BI_bd hw h0 hn i1
  have ht := tk_le hw s k
  have h4 := hD s hs k h1 i1
  have k1 := key_add bm (A0 (nx s k)) (B0 (nx s k)) (tk c s k) 1
  have k2 := key_add bm a' m (tk c s k) 1
  refine ⟨key_fin h4 (by omega) (by omega) (BI_cases hI hs), ?_⟩
  rw [h3, Nat.add_comm (tk c s k) a']
  omega
theorem fix_opt {c : Nat → Nat} {g : Nat} {bm : Bool} {A B : Nat → Nat} (hw : WR c) (hI : BI c g bm A B) (hD : ∀ u, sts c u → ∀ k, vl c u k → B (nx u k) < 100000000 → key bm (A u) (B u) ≤ key bm (A (nx u k) + tk c u k) (B (nx u k) + 1)) : optF c g bm A B := by
  have all : ∀ m s a, sts c s → wk c g m s a → B s < 100000000 ∧ key bm (A s) (B s) ≤ key bm a m := by
    intro m
    induction m with
    | zero => exact fun s a hs h => AL_0 hI hs h
    | succ m ih => exact fun s a hs h => AL_up hw hI hI hD hs h fun k a' hv h2 => ih _ _ (nx_lt hw hs hv) h2
  intro s hs
  rcases way_or (c := c) g s bm with q | ⟨x, y, q⟩
  · refine Or.inl ⟨q, ?_⟩
    rcases hI.2 s hs with h | ⟨h, h2, _⟩
    · exact h.1
    · exact absurd h2 (q _ _)
  · have h1 := (all _ _ _ hs q.1).1
    have b0 := BI_bd hw hI hs h1
    exact Or.inr ⟨b0.2.1, b0.1, b0.2.2.1, fun m' a' h' => (all m' s a' hs h').2⟩
theorem ro_L {c : Nat → Nat} {T g : Nat} {bm : Bool} {p1 : Int32} (hw : WR c) (hb : WB T c) (hT : T ≤ 520) {K : Mem → Option Mem} : ∀ d r fu (M : Mem) A B, r + d = 2048 → d + 2 ≤ fu → EY M c → BM c M A B → BI c g bm A B → AL c g bm A B r → ∃ M' A' B', md_costs_L80 p1 (bI bm) (nI (2 * 2 ^ c 1)) K fu (nI 1) M = K M' ∧ BM c M' A' B' ∧ optF c g bm A' B' ∧ EY M' c ∧ (∀ r i, ¬ (r = 0 ∧ i = 17) → ¬ r = 6 → ¬ r = 7 → M' r i = M r i) := by
  intro d
  induction d with
  | zero =>
    intro r fu M A B hr hf hE hM hI hA
    obtain ⟨fu, rfl⟩ : ∃ f, fu = f + 1 + 1 := ⟨fu - 2, by omega⟩
    have h10 := pw_10 (WR_n hw)
    obtain ⟨f2, M1, A1, B1, e1, ⟨a1, a2, a3, a4, a5, a6⟩, e3, e4⟩ := rp_L hw hb hT hI (p1 := p1) (K := fun v4_7 M9 => md_costs_L80 p1 (bI bm) (nI (2 * 2 ^ c 1)) K (fu + 1) (v4_7) (M9)) (2 * 2 ^ c 1) 0 FU M A B false (by omega) (by rw [FUe]; omega) hE ⟨hM, hI, fun _ _ => Nat.le_refl _, fun _ _ _ => ⟨rfl, rfl⟩, fun e => Bool.noConfusion e, fun u hu => absurd hu (by omega)⟩
    have hf2 : f2 = false := by
      refine Bool.eq_false_iff.mpr fun e => ?_
      obtain ⟨u, hu, hk⟩ := a5 e
      have c0 : A u ≤ 100000000 ∧ B u ≤ 100000000 := by
        rcases BI_cases hI hu with q | q
        · omega
        · have := BI_bd hw hI hu q
          omega
      rcases a2.2 u hu with q | ⟨q, q2, _⟩
      · have := key_mono (bm := bm) c0.1 c0.2
        rw [q.1, q.2] at hk
        omega
      · obtain ⟨m', a', g1, g2, g3, g4⟩ := wk_short hw (Nat.le_refl _) hu q2
        have h1 := (hA m' u a' (by omega) hu g4).2
        have h2 := key_mono (bm := bm) g3 g2
        omega
    subst hf2
    have ea : ∀ u, sts c u → A1 u = A u ∧ B1 u = B u := a4 rfl
    refine ⟨M1, A1, B1, ?_, a1, fix_opt hw a2 fun u hu k hv hB => ?_, e3, e4⟩
    · rw [md_costs_L80, if_neg (by decide)]
      refine e1.trans ?_
      rw [md_costs_L80, if_pos (show bI false = 0 from rfl)]
    · have hn := nx_lt hw hu hv
      rw [(ea _ hn).2] at hB
      rw [(ea _ hn).1, (ea _ hn).2]
      exact a6 u (by unfold sts at hu; omega) hu k hv hB
  | succ d ih =>
    intro r fu M A B hr hf hE hM hI hA
    obtain ⟨fu, rfl⟩ : ∃ f, fu = f + 1 + 1 := ⟨fu - 2, by omega⟩
    have h10 := pw_10 (WR_n hw)
    obtain ⟨f2, M1, A1, B1, e1, ⟨a1, a2, a3, a4, a5, a6⟩, e3, e4⟩ := rp_L hw hb hT hI (p1 := p1) (K := fun v4_7 M9 => md_costs_L80 p1 (bI bm) (nI (2 * 2 ^ c 1)) K (fu + 1) (v4_7) (M9)) (2 * 2 ^ c 1) 0 FU M A B false (by omega) (by rw [FUe]; omega) hE ⟨hM, hI, fun _ _ => Nat.le_refl _, fun _ _ _ => ⟨rfl, rfl⟩, fun e => Bool.noConfusion e, fun u hu => absurd hu (by omega)⟩
    have a6' : ∀ u, sts c u → ∀ k, vl c u k → B (nx u k) < 100000000 → key bm (A1 u) (B1 u) ≤ key bm (A (nx u k) + tk c u k) (B (nx u k) + 1) := fun u hu => a6 u (by unfold sts at hu; omega) hu
    cases f2
    · have ea : ∀ u, sts c u → A1 u = A u ∧ B1 u = B u := a4 rfl
      refine ⟨M1, A1, B1, ?_, a1, fix_opt hw a2 fun u hu k hv hB => ?_, e3, e4⟩
      · rw [md_costs_L80, if_neg (by decide)]
        refine e1.trans ?_
        rw [md_costs_L80, if_pos (show bI false = 0 from rfl)]
      · have hn := nx_lt hw hu hv
        rw [(ea _ hn).2] at hB
        rw [(ea _ hn).1, (ea _ hn).2]
        exact a6' u hu k hv hB
    · obtain ⟨M', A', B', i1, i2, i3, i4, i5⟩ := ih (r + 1) (fu + 1) M1 A1 B1 (by omega) (by omega) e3 a1 a2 (fun m s a hm hs hwk => by
        match m, hm, hwk with
        | 0, _, hwk => exact AL_0 a2 hs hwk
        | m + 1, hm, hwk => exact AL_up hw hI a2 a6' hs hwk fun k a' hv h2 => hA m _ a' (by omega) (nx_lt hw hs hv) h2)
      refine ⟨M', A', B', ?_, i2, i3, i4, fun q j x y z => by rw [i5 q j x y z, e4 q j x y z]⟩
      rw [md_costs_L80, if_neg (by decide)]
      exact e1.trans i1
theorem ri_L {g Q : Nat} {p2 : Int32} (hQ : Q ≤ 2048) (hg : g < 2048) {K : Mem → Option Mem} : ∀ m k fu (M : Mem), k + m = Q → m < fu → ∃ M', md_costs_L12 (nI g) p2 (nI Q) K fu (nI k) M = K M' ∧ (∀ u, k ≤ u → u < Q → M' 6 u = nI (if (u / 2) &&& g = g then 0 else 100000000) ∧ M' 7 u = nI (if (u / 2) &&& g = g then 0 else 100000000)) ∧ (∀ r i, ¬ ((r = 6 ∨ r = 7) ∧ k ≤ i) → M' r i = M r i)
  | 0, k, 0, M, _, hf => absurd hf (by omega)
  | 0, k, fu + 1, M, hk, _ => by
    refine ⟨M, ?_, fun u h1 h2 => absurd h2 (by omega), fun _ _ _ => rfl⟩
    rw [md_costs_L12]
    simp (disch := omega) only [n_lit, n_lt, if_neg]
  | m + 1, k, 0, M, _, hf => absurd hf (by omega)
  | m + 1, k, fu + 1, M, hk, hf => by
    have hgl := and_lt (n := 11) (k / 2) (show g < 2 ^ 11 by omega)
    obtain ⟨M', e1, e2, e3⟩ := ri_L hQ hg (p2 := p2) (K := K) m (k + 1) fu (wr (wr M 6 k (nI (if (k / 2) &&& g = g then 0 else 100000000))) 7 k (nI (if (k / 2) &&& g = g then 0 else 100000000))) (by omega) (by omega)
    refine ⟨M', ?_, fun u h1 h2 => ?_, fun r i hr => ?_⟩
    · rw [md_costs_L12, ← e1]
      unfold md_costs_J33 md_costs_J52
      simp (disch := omega) only [n_lit, n_lt, if_pos, n_div, n_and, n_eq, chk_in, n_cl, lt1_ap, n_add]
      by_cases q : (k / 2) &&& g = g
      · rw [if_pos q, if_pos q]
        rfl
      · rw [if_neg q, if_neg q]
        rfl
    · by_cases e : u = k
      · subst e
        rw [e3 _ _ (by omega), e3 _ _ (by omega), wr_ne (by omega), wr_eq, wr_eq]
        exact ⟨rfl, rfl⟩
      · exact e2 u (by omega) h2
    · rw [e3 r i (by omega), wr_ne (by omega), wr_ne (by omega)]
/-- the reference finds the best ways -/
theorem r_costs {Y : Mem} {c : Nat → Nat} {T g : Nat} {bm : Bool} (h : EY Y c) (hw : WR c) (hb : WB T c) (hT : T ≤ 520) (hg : g < 2 ^ c 1) : ∃ Y' A B, md_costs (nI g) (bI bm) Y = some Y' ∧ BM c Y' A B ∧ optF c g bm A B ∧ EY Y' c ∧ (∀ r i, ¬ (r = 0 ∧ i = 17) → ¬ r = 6 → ¬ r = 7 → Y' r i = Y r i) := by
  have hn := WR_n hw
  have h10 := pw_10 hn
  obtain ⟨M1, e1, e2, e3⟩ := ri_L (Q := 2 * 2 ^ c 1) (g := g) (p2 := bI bm) (by omega) (by omega) (K := fun M5 => md_costs_L80 (nI g) (bI bm) (nI (2 * 2 ^ c 1)) (fun M11 => some M11) FU (nI 1) M5) (2 * 2 ^ c 1) 0 FU Y (by omega) (by rw [FUe]; omega)
  have hE1 : EY M1 c := EY_fr h fun i => e3 1 i (by omega)
  have hBM : BM c M1 (fun u => if (u / 2) &&& g = g then 0 else 100000000) (fun u => if (u / 2) &&& g = g then 0 else 100000000) := fun u hu => e2 u (Nat.zero_le _) (by unfold sts at hu; omega)
  have hBI : BI c g bm (fun u => if (u / 2) &&& g = g then 0 else 100000000) (fun u => if (u / 2) &&& g = g then 0 else 100000000) := by
    refine ⟨fun s hs hgs => ?_, fun s hs => ?_⟩
    · dsimp only
      rw [if_pos (show (s / 2) &&& g = g from hgs)]
      exact ⟨rfl, rfl⟩
    · dsimp only
      by_cases q : (s / 2) &&& g = g
      · rw [if_pos q]
        refine Or.inr ⟨by omega, ⟨q, rfl⟩, ?_⟩
        have := ct_pos (p := fun u => decide ((if (u / 2) &&& g = g then 0 else 100000000) < 100000000)) (i := s) (n := 2048) (sts_2048 hw hs) (by rw [if_pos q]; rfl)
        have e : prim bm 0 0 = 0 := by unfold prim; split <;> rfl
        rw [e]
        exact Nat.mul_le_mul_left 69 this
      · rw [if_neg q]
        exact Or.inl ⟨rfl, rfl⟩
  obtain ⟨M2, A, B, f1, f2, f3, f4, f5⟩ := ro_L hw hb hT (p1 := nI g) (K := fun M11 => some M11) 2048 0 FU M1 _ _ (by omega) (by rw [FUe]; omega) hE1 hBM hBI (fun m s a hm hs hk => by
    have : m = 0 := by omega
    subst this
    exact AL_0 hBI hs hk)
  refine ⟨M2, A, B, ?_, f2, f3, f4, fun r i x y z => by rw [f5 r i x y z, e3 r i (by omega)]⟩
  unfold md_costs
  rw [EY_n h (i := 1) (by omega) (by omega)]
  simp (disch := omega) only [n_lit, n_m31, n_shl]
  exact e1.trans f1
