/-! left -/
def lq (x : Nat) : Nat := 1024 * pc 10 x + x
/-- whom no closed set of states can leave out -/
def CLP (c : Nat → Nat) (s0 s : Nat) : Prop := ∀ P : Nat → Prop, P s0 → (∀ s k, sts c s → P s → vl c s k → P (nx s k)) → P s
theorem ct_shift (p : Nat → Bool) : ∀ m, ct p (m + 1) = (if p 0 then 1 else 0) + ct (fun k => p (k + 1)) m
  | 0 => by
    show 0 + (if p 0 then 1 else 0) = (if p 0 then 1 else 0) + 0
    omega
  | m + 1 => by
    have := ct_shift p m
    show ct p (m + 1) + (if p (m + 1) then 1 else 0) = (if p 0 then 1 else 0) + (ct (fun k => p (k + 1)) m + if p (m + 1) then 1 else 0)
    omega
theorem pc_ct : ∀ m h, pc m h = ct (fun b => h.testBit b) m
  | 0, _ => rfl
  | m + 1, h => by
    rw [ct_shift]
    have ih := pc_ct m (h / 2)
    unfold pc
    rw [ih, Nat.add_comm]
    congr 1
    · rw [Nat.testBit_zero]
      by_cases q : h % 2 = 1
      · rw [q]; rfl
      · rw [show h % 2 = 0 by omega]; rfl
    · exact ct_cong fun k _ => (Nat.testBit_succ h k).symm
theorem ct_ext {p : Nat → Bool} {n : Nat} : ∀ {d : Nat}, (∀ k, n ≤ k → p k = false) → ct p (n + d) = ct p n
  | 0, _ => rfl
  | d + 1, h => by
    have := ct_ext (p := p) (n := n) (d := d) h
    show ct p (n + d) + (if p (n + d) then 1 else 0) = _
    rw [this, h (n + d) (by omega)]
    rfl
theorem pc_left {c : Nat → Nat} (hw : WR c) (ov : Nat) : pc 10 (sd (al c) ov) = ct (fun b => !ov.testBit b) (c 1) := by
  have hn := WR_n hw
  rw [pc_ct, show 10 = c 1 + (10 - c 1) by omega, ct_ext fun k hk => by rw [sd_tb, al_b, decide_eq_false (by omega)]; rfl]
  exact ct_cong fun k hk => by
    rw [sd_tb, al_b, decide_eq_true hk, Bool.true_and]
theorem pc_mono {x y : Nat} (h : sd x y = 0) : pc 10 x ≤ pc 10 y := by
  rw [pc_ct, pc_ct]
  have : ∀ n, ct (fun b => x.testBit b) n ≤ ct (fun b => y.testBit b) n := fun n => by
    induction n with
    | zero => exact Nat.le_refl _
    | succ n ih =>
      have h2 := sd_0.mp h n
      show ct _ n + (if x.testBit n then 1 else 0) ≤ ct _ n + (if y.testBit n then 1 else 0)
      cases hx : x.testBit n
      · show ct _ n + 0 ≤ _
        omega
      · rw [h2 hx]
        exact Nat.add_le_add_right ih _
  exact this 10
theorem ll_L {c : Nat → Nat} {M : Mem} {p1 : Int32} {ns : Nat} {z : Nat → Nat} (hw : WR c) (hA : M 75 2 = nI (al c)) (h6 : M 82 6 = nI ns) (hns : ns ≤ 2048) (hz : ∀ i, i < ns → M 85 i = nI (z i) ∧ sts c (z i)) {K : Int32 → Option (Int32 × Mem)} : ∀ m i x fu, i + m = ns → m < fu → x < 1024 → (∀ j, j < i → lq x ≤ lq (sd (al c) (z j / 2))) → (x = al c ∨ ∃ j, j < i ∧ x = sd (al c) (z j / 2)) → ∃ x', pl_leastLeft_L20 p1 M K fu (nI x) (nI i) = K (nI x') ∧ x' < 1024 ∧ (∀ j, j < ns → lq x' ≤ lq (sd (al c) (z j / 2))) ∧ (x' = al c ∨ ∃ j, j < ns ∧ x' = sd (al c) (z j / 2))
  | 0, i, x, 0, _, hf, _, _, _ => absurd hf (by omega)
  | 0, i, x, fu + 1, hk, _, hx, h1, h2 => by
    have : i = ns := by omega
    subst this
    refine ⟨x, ?_, hx, h1, h2⟩
    rw [pl_leastLeft_L20, h6]
    simp (disch := omega) only [n_lit, n_lt, if_neg]
  | m + 1, i, x, 0, _, hf, _, _, _ => absurd hf (by omega)
  | m + 1, i, x, fu + 1, hk, hf, hx, h1, h2 => by
    obtain ⟨hzi, hsz⟩ := hz i (by omega)
    have z2 := sts_2048 hw hsz
    have hal := (WR_al hw).1
    have hl : sd (al c) (z i / 2) < 2 ^ 10 := sd_lt (n := 10) _ (by omega)
    have q1 := pc_le 10 (sd (al c) (z i / 2))
    have q2 := pc_le 10 x
    have stp : pl_leastLeft_L20 p1 M K (fu + 1) (nI x) (nI i) = if lq (sd (al c) (z i / 2)) < lq x then pl_leastLeft_L20 p1 M K fu (nI (sd (al c) (z i / 2))) (nI (i + 1)) else pl_leastLeft_L20 p1 M K fu (nI x) (nI (i + 1)) := by
      rw [pl_leastLeft_L20, h6]
      simp (disch := omega) only [n_lit, n_lt, if_pos, chk_in, n_cl, lt1_ap]
      rw [hzi, hA, show nI 1 &&& nI 31 = nI 1 by decide, n_shr (by omega) (by omega), n_sd, Nat.pow_one, k_bits (show sd (al c) (z i / 2) < 1024 by omega), k_bits hx]
      unfold ji_compare lq
      simp (disch := omega) only [bind_s, n_lit, n_lt, n_eq, n_add]
      by_cases c1 : pc 10 (sd (al c) (z i / 2)) < pc 10 x
      · rw [if_pos c1, bind_s, if_pos (show -nI 1 < nI 0 by decide), if_pos (by omega)]
      · rw [if_neg c1]
        by_cases c2 : pc 10 (sd (al c) (z i / 2)) = pc 10 x
        · rw [if_pos c2, bind_s, if_neg (show ¬ nI 0 < nI 0 from Int32.lt_irrefl), if_pos rfl]
          by_cases c3 : sd (al c) (z i / 2) < x
          · rw [if_pos c3, if_pos (by omega)]
          · rw [if_neg c3, if_neg (by omega)]
        · rw [if_neg c2, bind_s, if_neg (show ¬ nI 1 < nI 0 by decide), if_neg (show ¬ nI 1 = nI 0 by decide), if_neg (by omega)]
    by_cases q : lq (sd (al c) (z i / 2)) < lq x
    · obtain ⟨x', i1, i2, i3, i4⟩ := ll_L hw hA h6 hns hz (p1 := p1) (K := K) m (i + 1) (sd (al c) (z i / 2)) fu (by omega) (by omega) (by omega) (fun j hj => by
        by_cases e : j = i
        · rw [e]; exact Nat.le_refl _
        · have := h1 j (by omega); omega) (Or.inr ⟨i, by omega, rfl⟩)
      exact ⟨x', by rw [stp, if_pos q]; exact i1, i2, i3, i4⟩
    · obtain ⟨x', i1, i2, i3, i4⟩ := ll_L hw hA h6 hns hz (p1 := p1) (K := K) m (i + 1) x fu (by omega) (by omega) hx (fun j hj => by
        by_cases e : j = i
        · rw [e]; omega
        · exact h1 j (by omega)) (by
        rcases h2 with h2 | ⟨j, hj, h2⟩
        · exact Or.inl h2
        · exact Or.inr ⟨j, by omega, h2⟩)
      exact ⟨x', by rw [stp, if_neg q]; exact i1, i2, i3, i4⟩
/-! the reference's reached states -/
def RR (c : Nat → Nat) (Y : Mem) (R : Nat → Nat) : Prop := ∀ s, sts c s → Y 8 s = nI (R s) ∧ R s ≤ 2
theorem rm_J {c : Nat → Nat} {T s : Nat} (hw : WR c) (hb : WB T c) (hT : T ≤ 520) (hs : sts c s) {y1 : Int32} {K : Mem → Option (Int32 × Mem)} : ∀ d j fu (M : Mem) R, j + d = 1024 + c 1 → d < fu → EY M c → RR c M R → ∃ M' R', md_left_L84 y1 (nI 1) (nI s) K fu (nI j) M = K M' ∧ EY M' c ∧ RR c M' R' ∧ (∀ u, sts c u → R' u = R u ∨ (R u = 0 ∧ R' u = 1 ∧ ∃ k, vl c s k ∧ u = nx s k)) ∧ (∀ k, j ≤ k → vl c s k → ¬ R' (nx s k) = 0) ∧ (∀ r i, ¬ (r = 0 ∧ i = 17) → ¬ r = 8 → M' r i = M r i)
  | 0, j, 0, _, _, _, hf => absurd hf (by omega)
  | 0, j, fu + 1, M, R, hk, _ => fun hE hR => by
    have hn := WR_n hw
    refine ⟨M, R, ?_, hE, hR, fun u _ => Or.inl rfl, fun k h1 h2 => absurd h2.1 (by omega), fun _ _ _ _ => rfl⟩
    rw [md_left_L84, EY_n hE (i := 1) (by omega) (by omega)]
    simp (disch := omega) only [n_lit, n_add, n_lt, if_neg]
  | d + 1, j, 0, _, _, _, hf => absurd hf (by omega)
  | d + 1, j, fu + 1, M, R, hk, hf => fun hE hR => by
    have hn := WR_n hw
    have ih := rm_J hw hb hT hs (y1 := y1) (K := K) d (j + 1) fu
    have stp : md_left_L84 y1 (nI 1) (nI s) K (fu + 1) (nI j) M = if j < 1024 then (if nI (sd j (al c)) = nI 0 then md_left_J122 (fun a4 aM => md_left_L84 y1 (nI 1) (nI s) K fu a4 aM) K y1 (nI 1) (nI s) (nI j) M else md_left_L84 y1 (nI 1) (nI s) K fu (nI (j + 1)) M) else md_left_J122 (fun a4 aM => md_left_L84 y1 (nI 1) (nI s) K fu a4 aM) K y1 (nI 1) (nI s) (nI j) M := by
      rw [md_left_L84, EY_n hE (i := 1) (by omega) (by omega), r_all hE hw]
      simp (disch := omega) only [n_lit, n_add, n_lt, if_pos, bind_s, n_sd]
    have goes : ∃ M' R', md_left_J122 (fun a4 aM => md_left_L84 y1 (nI 1) (nI s) K fu a4 aM) K y1 (nI 1) (nI s) (nI j) M = K M' ∧ EY M' c ∧ RR c M' R' ∧ (∀ u, sts c u → R' u = R u ∨ (R u = 0 ∧ R' u = 1 ∧ ∃ k, vl c s k ∧ u = nx s k)) ∧ (∀ k, j ≤ k → vl c s k → ¬ R' (nx s k) = 0) ∧ (∀ r i, ¬ (r = 0 ∧ i = 17) → ¬ r = 8 → M' r i = M r i) := by
      have hE2 : EY (rY M (tk c s j)) c := EY_fr hE fun i => by
        unfold rY
        split
        · rfl
        · exact wr_ne (by omega)
      have fr2 : ∀ r i, ¬ (r = 0 ∧ i = 17) → rY M (tk c s j) r i = M r i := fun r i hr => by
        unfold rY
        split
        · rfl
        · exact wr_ne hr
      have hR2 : RR c (rY M (tk c s j)) R := fun u hu => by
        rw [fr2 _ _ (by omega)]
        exact hR u hu
      unfold md_left_J122
      rw [r_behind hE hw hb hT hs (by omega)]
      unfold bnd2 nxI
      dsimp only
      by_cases q0 : tk c s j = 0
      · obtain ⟨M', R', i1, i2, i3, i4, i5, i6⟩ := ih (rY M (tk c s j)) R (by omega) (by omega) hE2 hR2
        refine ⟨M', R', ?_, i2, i3, i4, fun k h1 h2 => ?_, fun r i h1 h2 => by rw [i6 r i h1 h2, fr2 r i h1]⟩
        · rw [if_pos q0, if_pos rfl, n_lit, n_add]
          exact i1
        · by_cases e : k = j
          · exact absurd (e ▸ q0) h2.2
          · exact i5 k (by omega) h2
      · have hv : vl c s j := ⟨by omega, q0⟩
        have hu := nx_lt hw hs hv
        have u2 := sts_2048 hw hu
        obtain ⟨r1, r2⟩ := hR2 _ hu
        rw [if_neg q0, if_neg (nI_nm (by omega))]
        simp (disch := omega) only [n_lit, chk_in, n_cl, r1, n_eq, n_add, lt1_ap]
        by_cases q1 : R (nx s j) = 0
        · rw [if_pos q1]
          obtain ⟨M', R', i1, i2, i3, i4, i5, i6⟩ := ih (wr (rY M (tk c s j)) 8 (nx s j) (nI 1)) (upf R (nx s j) 1) (by omega) (by omega) (EY_fr hE2 fun i => wr_ne (by omega)) (fun u hu => by
            by_cases e : u = nx s j
            · rw [e, wr_eq, upf_eq]; exact ⟨rfl, by omega⟩
            · rw [wr_ne (by omega), upf_ne e]; exact hR2 u hu)
          refine ⟨M', R', i1, i2, i3, fun u hu => ?_, fun k h1 h2 => ?_, fun r i h1 h2 => by rw [i6 r i h1 h2, wr_ne (by omega), fr2 r i h1]⟩
          · by_cases e : u = nx s j
            · rcases i4 u hu with q | ⟨q, _, _⟩
              · rw [e, upf_eq] at q
                rw [e]
                exact Or.inr ⟨q1, q, j, hv, rfl⟩
              · rw [e, upf_eq] at q
                omega
            · have := i4 u hu
              rw [upf_ne e] at this
              exact this
          · by_cases e : k = j
            · subst e
              rcases i4 _ hu with q | ⟨q, _, _⟩
              · rw [q, upf_eq]; omega
              · rw [upf_eq] at q; omega
            · exact i5 k (by omega) h2
        · rw [if_neg q1]
          obtain ⟨M', R', i1, i2, i3, i4, i5, i6⟩ := ih (rY M (tk c s j)) R (by omega) (by omega) hE2 hR2
          refine ⟨M', R', i1, i2, i3, i4, fun k h1 h2 => ?_, fun r i h1 h2 => by rw [i6 r i h1 h2, fr2 r i h1]⟩
          by_cases e : k = j
          · subst e
            rcases i4 _ hu with q | ⟨_, q, _⟩ <;> omega
          · exact i5 k (by omega) h2
    rw [stp]
    by_cases q : j < 1024
    · rw [if_pos q]
      by_cases q2 : nI (sd j (al c)) = nI 0
      · rw [if_pos q2]
        exact goes
      · rw [if_neg q2]
        obtain ⟨M', R', i1, i2, i3, i4, i5, i6⟩ := ih M R (by omega) (by omega) hE hR
        refine ⟨M', R', i1, i2, i3, i4, fun k h1 h2 => ?_, i6⟩
        by_cases e : k = j
        · subst e
          exfalso
          have h3 := vl_sub h2 q
          have h4 : sd k (al c) = 0 := sd_0.mpr fun i hi => by
            have h5 := sub_lt h3 (here_lt (bk := s % 2) hw hs)
            rw [al_b, decide_eq_true_iff]
            refine Classical.byContradiction fun e => ?_
            rw [tb_big h5 (by omega)] at hi
            exact Bool.noConfusion hi
          rw [h4] at q2
          exact q2 rfl
        · exact i5 k (by omega) h2
    · rw [if_neg q]
      exact goes
def c2 (R : Nat → Nat) : Nat := ct (fun s => decide (R s = 2)) 2048
/-- what is reached so far -/
def RI (c : Nat → Nat) (s0 : Nat) (R : Nat → Nat) : Prop := (∀ s, sts c s → ¬ R s = 0 → CLP c s0 s) ∧ (∀ s, sts c s → R s = 2 → ∀ k, vl c s k → ¬ R (nx s k) = 0) ∧ ¬ R s0 = 0 ∧ (∀ s, ¬ sts c s → R s = 0)
theorem rq_L {c : Nat → Nat} {T s0 : Nat} (hw : WR c) (hb : WB T c) (hT : T ≤ 520) {R0 : Nat → Nat} {K : Int32 → Mem → Option (Int32 × Mem)} : ∀ m i fu (M : Mem) R fl, i + m = 2 * 2 ^ c 1 → m < fu → EY M c → RR c M R → RI c s0 R → c2 R0 ≤ c2 R → (fl = false → (∀ u, R u = R0 u) ∧ ∀ u, u < i → ¬ R u = 1) → (fl = true → c2 R0 < c2 R) → ∃ f2 M' R', md_left_L54 (nI (2 * 2 ^ c 1)) K fu (bI fl) (nI i) M = K (bI f2) M' ∧ EY M' c ∧ RR c M' R' ∧ RI c s0 R' ∧ (f2 = false → ∀ u, ¬ R' u = 1) ∧ (f2 = true → c2 R0 < c2 R') ∧ (∀ r i, ¬ (r = 0 ∧ i = 17) → ¬ r = 8 → M' r i = M r i)
  | 0, i, 0, _, _, _, _, hf => absurd hf (by omega)
  | 0, i, fu + 1, M, R, fl, hk, _ => fun hE hR hI hc h0 h1 => by
    have h10 := pw_10 (WR_n hw)
    refine ⟨fl, M, R, ?_, hE, hR, hI, fun e u => ?_, h1, fun _ _ _ _ => rfl⟩
    · rw [md_left_L54]
      simp (disch := omega) only [n_lit, n_lt, if_neg]
    · by_cases q : sts c u
      · exact (h0 e).2 u (by unfold sts at q; omega)
      · rw [hI.2.2.2 u q]
        omega
  | m + 1, i, 0, _, _, _, _, hf => absurd hf (by omega)
  | m + 1, i, fu + 1, M, R, fl, hk, hf => fun hE hR hI hc h0 h1 => by
    have h10 := pw_10 (WR_n hw)
    have hs : sts c i := by unfold sts; omega
    obtain ⟨r1, r2⟩ := hR i hs
    by_cases q : R i = 1
    · obtain ⟨I1, I2, I3, I4⟩ := id hI
      have hR1 : RR c (wr M 8 i (nI 2)) (upf R i 2) := fun u hu => by
        by_cases e : u = i
        · rw [e, wr_eq, upf_eq]; exact ⟨rfl, Nat.le_refl _⟩
        · rw [wr_ne (by omega), upf_ne e]; exact hR u hu
      have s2 := sts_2048 hw hs
      obtain ⟨M1, R1, e1, e2, e3, e4, e5, e6⟩ := rm_J hw hb hT hs (y1 := nI (2 * 2 ^ c 1)) (K := fun M13 => md_left_L54 (nI (2 * 2 ^ c 1)) K fu (nI 1) (nI (i + 1)) M13) (1024 + c 1) 0 FU (wr M 8 i (nI 2)) (upf R i 2) (by omega) (by rw [FUe]; have := WR_n hw; omega) (EY_fr hE fun j => wr_ne (by omega)) hR1
      have hc1 : c2 (upf R i 2) = c2 R + 1 := ct_new (p := fun s => decide (R s = 2)) (q := fun u => decide (upf R i 2 u = 2)) (i := i) (fun u _ hu => by rw [upf_ne hu]) s2 (decide_eq_false (by omega)) (by rw [upf_eq]; rfl)
      -- outside the states nothing is told of R1: take it as 0 there
      have hst : ∀ u, sts c u → R1 u = upf R i 2 u ∨ (upf R i 2 u = 0 ∧ R1 u = 1) := fun u hu => by
        rcases e4 u hu with q | ⟨q, q2, _⟩
        · exact Or.inl q
        · exact Or.inr ⟨q, q2⟩
      have dec : ∀ u, u < 2 * 2 ^ c 1 ↔ sts c u := fun u => by unfold sts; omega
      have hR2e : ∀ u, sts c u → (if u < 2 * 2 ^ c 1 then R1 u else 0) = R1 u := fun u hu => if_pos ((dec u).mpr hu)
      have hc2 : c2 (fun u => if u < 2 * 2 ^ c 1 then R1 u else 0) = c2 (upf R i 2) := ct_cong fun u _ => by
        refine decide_eq_decide.mpr ?_
        by_cases q : sts c u
        · dsimp only
          rw [hR2e u q]
          rcases hst u q with h | ⟨h, h2⟩ <;> omega
        · dsimp only
          rw [if_neg (fun h => q ((dec u).mp h)), upf_ne (show ¬ u = i from fun e => q (by rw [e]; exact hs)), I4 u q]
      have hI2 : RI c s0 (fun u => if u < 2 * 2 ^ c 1 then R1 u else 0) := by
        refine ⟨fun u hu hn => ?_, fun u hu h2 k hv => ?_, ?_, fun u hu => if_neg fun h => hu ((dec u).mp h)⟩
        · dsimp only at hn
          rw [hR2e u hu] at hn
          rcases e4 u hu with q3 | ⟨_, _, k, hv, e⟩
          · by_cases e : u = i
            · rw [e]; exact I1 i hs (by omega)
            · rw [q3, upf_ne e] at hn
              exact I1 u hu hn
          · rw [e]
            exact fun P p0 pc => pc i k hs (I1 i hs (by omega) P p0 pc) hv
        · dsimp only at h2 ⊢
          rw [hR2e u hu] at h2
          rw [hR2e _ (nx_lt hw hu hv)]
          by_cases e : u = i
          · rw [e] at hv ⊢
            exact e5 k (Nat.zero_le _) hv
          · have h3 : R u = 2 := by
              rcases hst u hu with h | ⟨h, h'⟩
              · rw [upf_ne e] at h; omega
              · omega
            have h4 := I2 u hu h3 k hv
            rcases hst _ (nx_lt hw hu hv) with h | ⟨h, h'⟩
            · rw [h]
              by_cases e2 : nx u k = i
              · rw [e2, upf_eq]; omega
              · rw [upf_ne e2]; exact h4
            · omega
        · by_cases q3 : sts c s0
          · dsimp only
            rw [hR2e _ q3]
            rcases hst s0 q3 with h | ⟨h, h'⟩
            · rw [h]
              by_cases e2 : s0 = i
              · rw [e2, upf_eq]; omega
              · rw [upf_ne e2]; exact I3
            · omega
          · exact absurd (I4 s0 q3) I3
      obtain ⟨f2, M', R', i1, i2, i3, i4, i5, i6, i7⟩ := rq_L hw hb hT (R0 := R0) (K := K) m (i + 1) fu M1 (fun u => if u < 2 * 2 ^ c 1 then R1 u else 0) true (by omega) (by omega) e2 (fun u hu => by dsimp only; rw [hR2e u hu]; exact e3 u hu) hI2 (by omega) (fun e => Bool.noConfusion e) (fun _ => by omega)
      refine ⟨f2, M', R', ?_, i2, i3, i4, i5, i6, fun r j a b => by rw [i7 r j a b, e6 r j a b, wr_ne (by omega)]⟩
      rw [md_left_L54]
      simp (disch := omega) only [n_lit, n_lt, if_pos, chk_in, n_cl, lt1_ap, n_add]
      rw [if_pos (show M 8 i = nI 1 by rw [r1, q])]
      exact e1.trans i1
    · obtain ⟨f2, M', R', i1, i2, i3, i4, i5, i6, i7⟩ := rq_L hw hb hT (R0 := R0) (K := K) m (i + 1) fu M R fl (by omega) (by omega) hE hR hI hc (fun e => ⟨(h0 e).1, fun u hu => by
        by_cases e2 : u = i
        · rw [e2]; exact q
        · exact (h0 e).2 u (by omega)⟩) h1
      refine ⟨f2, M', R', ?_, i2, i3, i4, i5, i6, i7⟩
      rw [md_left_L54, ← i1]
      simp (disch := omega) only [n_lit, n_lt, if_pos, chk_in, n_cl, n_add]
      rw [if_neg (show ¬ M 8 i = nI 1 by rw [r1, n_eq (by omega) (by omega)]; exact q)]
theorem rt_L {c : Nat → Nat} {T s0 : Nat} (hw : WR c) (hb : WB T c) (hT : T ≤ 520) {K : Mem → Option (Int32 × Mem)} : ∀ d fu (M : Mem) R, 2048 ≤ c2 R + d → d + 2 ≤ fu → EY M c → RR c M R → RI c s0 R → ∃ M' R', md_left_L46 (nI (2 * 2 ^ c 1)) K fu (nI 1) M = K M' ∧ EY M' c ∧ RR c M' R' ∧ RI c s0 R' ∧ (∀ u, ¬ R' u = 1) ∧ (∀ r i, ¬ (r = 0 ∧ i = 17) → ¬ r = 8 → M' r i = M r i) := by
  intro d
  induction d with
  | zero =>
    intro fu M R hd hf hE hR hI
    obtain ⟨fu, rfl⟩ : ∃ f, fu = f + 1 + 1 := ⟨fu - 2, by omega⟩
    have h10 := pw_10 (WR_n hw)
    obtain ⟨f2, M1, R1, e1, e2, e3, e4, e5, e6, e7⟩ := rq_L hw hb hT (R0 := R) (K := fun v2_13 M15 => md_left_L46 (nI (2 * 2 ^ c 1)) K (fu + 1) (v2_13) (M15)) (2 * 2 ^ c 1) 0 FU M R false (by omega) (by rw [FUe]; omega) hE hR hI (Nat.le_refl _) (fun _ => ⟨fun _ => rfl, fun u hu => absurd hu (by omega)⟩) (fun e => Bool.noConfusion e)
    have hle := ct_le (fun s => decide (R1 s = 2)) 2048
    have hf2 : f2 = false := Bool.eq_false_iff.mpr fun e => by
      have h1 := e6 e
      have h2 : c2 R1 ≤ 2048 := hle
      omega
    subst hf2
    refine ⟨M1, R1, ?_, e2, e3, e4, e5 rfl, e7⟩
    rw [md_left_L46, if_neg (by decide)]
    refine e1.trans ?_
    rw [md_left_L46, if_pos (show bI false = 0 from rfl)]
  | succ d ih =>
    intro fu M R hd hf hE hR hI
    obtain ⟨fu, rfl⟩ : ∃ f, fu = f + 1 + 1 := ⟨fu - 2, by omega⟩
    have h10 := pw_10 (WR_n hw)
    obtain ⟨f2, M1, R1, e1, e2, e3, e4, e5, e6, e7⟩ := rq_L hw hb hT (R0 := R) (K := fun v2_13 M15 => md_left_L46 (nI (2 * 2 ^ c 1)) K (fu + 1) (v2_13) (M15)) (2 * 2 ^ c 1) 0 FU M R false (by omega) (by rw [FUe]; omega) hE hR hI (Nat.le_refl _) (fun _ => ⟨fun _ => rfl, fun u hu => absurd hu (by omega)⟩) (fun e => Bool.noConfusion e)
    cases f2
    · refine ⟨M1, R1, ?_, e2, e3, e4, e5 rfl, e7⟩
      rw [md_left_L46, if_neg (by decide)]
      refine e1.trans ?_
      rw [md_left_L46, if_pos (show bI false = 0 from rfl)]
    · have h1 := e6 rfl
      obtain ⟨M', R', i1, i2, i3, i4, i5, i6⟩ := ih (fu + 1) M1 R1 (by omega) (by omega) e2 e3 e4
      refine ⟨M', R', ?_, i2, i3, i4, i5, fun r i a b => by rw [i6 r i a b, e7 r i a b]⟩
      rw [md_left_L46, if_neg (by decide)]
      exact e1.trans i1
theorem rz_L {Q : Nat} (hQ : Q ≤ 2048) {K : Mem → Option (Int32 × Mem)} : ∀ m k fu (M : Mem), k + m = Q → m < fu → ∃ M', md_left_L16 (nI Q) K fu (nI k) M = K M' ∧ (∀ u, k ≤ u → u < Q → M' 8 u = nI 0) ∧ (∀ r i, ¬ (r = 8 ∧ k ≤ i) → M' r i = M r i)
  | 0, k, 0, M, _, hf => absurd hf (by omega)
  | 0, k, fu + 1, M, hk, _ => by
    refine ⟨M, ?_, fun u h1 h2 => absurd h2 (by omega), fun _ _ _ => rfl⟩
    rw [md_left_L16]
    simp (disch := omega) only [n_lit, n_lt, if_neg]
  | m + 1, k, 0, M, _, hf => absurd hf (by omega)
  | m + 1, k, fu + 1, M, hk, hf => by
    obtain ⟨M', e1, e2, e3⟩ := rz_L hQ (K := K) m (k + 1) fu (wr M 8 k (nI 0)) (by omega) (by omega)
    refine ⟨M', ?_, fun u h1 h2 => ?_, fun r i hr => by rw [e3 r i (by omega), wr_ne (by omega)]⟩
    · rw [md_left_L16, ← e1]
      simp (disch := omega) only [n_lit, n_lt, if_pos, chk_in, n_cl, lt1_ap, n_add]
    · by_cases e : u = k
      · subst e
        rw [e3 _ _ (by omega), wr_eq]
      · exact e2 u (by omega) h2
theorem rn_L {c : Nat → Nat} {M : Mem} {ov : Nat} {y3 y4 : Int32} (hw : WR c) (hE : EY M c) {K : Int32 → Option (Int32 × Mem)} : ∀ m k fu, k + m = c 1 → m < fu → md_left_L227 y3 y4 (nI ov) M K fu (nI (ct (fun b => !ov.testBit b) k)) (nI k) = K (nI (ct (fun b => !ov.testBit b) (c 1)))
  | 0, k, 0, _, hf => absurd hf (by omega)
  | 0, k, fu + 1, hk, _ => by
    have hn := WR_n hw
    rw [md_left_L227, EY_n hE (i := 1) (by omega) (by omega)]
    simp (disch := omega) only [n_lit, n_lt, if_neg]
    rw [show k = c 1 by omega]
  | m + 1, k, 0, _, hf => absurd hf (by omega)
  | m + 1, k, fu + 1, hk, hf => by
    have hn := WR_n hw
    have ih := rn_L hw hE (ov := ov) (y3 := y3) (y4 := y4) (K := K) m (k + 1) fu (by omega) (by omega)
    have es : ct (fun b => !ov.testBit b) (k + 1) = ct (fun b => !ov.testBit b) k + if (!ov.testBit k) = true then 1 else 0 := rfl
    rw [md_left_L227, EY_n hE (i := 1) (by omega) (by omega), r_isOf (by omega), ← ih, es]
    simp (disch := omega) only [n_lit, n_lt, if_pos, bind_s, bI_0, n_add]
    cases ov.testBit k
    · rw [if_pos rfl]; rfl
    · rw [if_neg (by decide)]; rfl
def lfI (bo : Option Nat) : Int32 := match bo with
  | none => -1
  | some l => nI l
def lfN (bo : Option Nat) : Nat := match bo with
  | none => 0
  | some l => pc 10 l
theorem lb_L {c : Nat → Nat} {M : Mem} {R : Nat → Nat} (hw : WR c) (hE : EY M c) (hR : RR c M R) {K : Int32 → Option (Int32 × Mem)} : ∀ m fu bo, m < fu → m ≤ 2 ^ c 1 → (∀ l, bo = some l → l < 1024 ∧ (∃ ov, ov < 2 ^ c 1 ∧ ¬ (R (2 * ov) = 0 ∧ R (2 * ov + 1) = 0) ∧ l = sd (al c) ov) ∧ ∀ ov, m ≤ ov → ov < 2 ^ c 1 → ¬ (R (2 * ov) = 0 ∧ R (2 * ov + 1) = 0) → lq l ≤ lq (sd (al c) ov)) → (bo = none → ∀ ov, m ≤ ov → ov < 2 ^ c 1 → R (2 * ov) = 0 ∧ R (2 * ov + 1) = 0) → ∃ b2, md_left_L187 M K fu (lfI bo) (nI (lfN bo)) (nI m - nI 1) = K (lfI b2) ∧ (∀ l, b2 = some l → l < 1024 ∧ (∃ ov, ov < 2 ^ c 1 ∧ ¬ (R (2 * ov) = 0 ∧ R (2 * ov + 1) = 0) ∧ l = sd (al c) ov) ∧ ∀ ov, ov < 2 ^ c 1 → ¬ (R (2 * ov) = 0 ∧ R (2 * ov + 1) = 0) → lq l ≤ lq (sd (al c) ov)) ∧ (b2 = none → ∀ ov, ov < 2 ^ c 1 → R (2 * ov) = 0 ∧ R (2 * ov + 1) = 0) := by
  have hn := WR_n hw
  have h10 := pw_10 hn
  intro m
  induction m with
  | zero =>
    intro fu bo hf _ h1 h2
    obtain ⟨fu, rfl⟩ : ∃ f, fu = f + 1 := ⟨fu - 1, by omega⟩
    refine ⟨bo, ?_, fun l e => ⟨(h1 l e).1, (h1 l e).2.1, fun ov h3 h4 => (h1 l e).2.2 ov (Nat.zero_le _) h3 h4⟩, fun e ov h3 => h2 e ov (Nat.zero_le _) h3⟩
    rw [md_left_L187, if_pos (show nI 0 - nI 1 < 0 by decide)]
  | succ m ih =>
    intro fu bo hf hm h1 h2
    obtain ⟨fu, rfl⟩ : ∃ f, fu = f + 1 := ⟨fu - 1, by omega⟩
    have hal := (WR_al hw).1
    have ra := hR (2 * m) (by unfold sts; omega)
    have rb := hR (2 * m + 1) (by unfold sts; omega)
    have hl : sd (al c) m < 2 ^ 10 := sd_lt (n := 10) _ (by omega)
    have q1 := pc_le 10 (sd (al c) m)
    have J : ∀ x3 x4, md_left_J221 (fun a3 a4 a5 => md_left_L187 M K fu a3 a4 a5) K x3 x4 (nI m) M = (if x3 = -1 then md_left_L187 M K fu (nI (sd (al c) m)) (nI (pc 10 (sd (al c) m))) (nI m - nI 1) else (if x4 < nI (pc 10 (sd (al c) m)) then md_left_L187 M K fu x3 x4 (nI m - nI 1) else (if nI (pc 10 (sd (al c) m)) = x4 then (if x3 < nI (sd (al c) m) then md_left_L187 M K fu x3 x4 (nI m - nI 1) else md_left_L187 M K fu (nI (sd (al c) m)) (nI (pc 10 (sd (al c) m))) (nI m - nI 1)) else md_left_L187 M K fu (nI (sd (al c) m)) (nI (pc 10 (sd (al c) m))) (nI m - nI 1)))) := fun x3 x4 => by
      unfold md_left_J221
      refine (rn_L hw hE (ov := m) (y3 := x3) (y4 := x4) (c 1) 0 FU (by omega) (by rw [FUe]; omega)).trans ?_
      rw [r_all hE hw, ← pc_left hw]
      simp only [bind_s, n_lit, n_sd]
      rw [show nI m + -nI 1 = nI m - nI 1 from (Int32.sub_eq_add_neg _ _).symm]
    have stp : md_left_L187 M K (fu + 1) (lfI bo) (nI (lfN bo)) (nI (m + 1) - nI 1) = if R (2 * m) = 0 ∧ R (2 * m + 1) = 0 then md_left_L187 M K fu (lfI bo) (nI (lfN bo)) (nI m - nI 1) else md_left_J221 (fun a3 a4 a5 => md_left_L187 M K fu a3 a4 a5) K (lfI bo) (nI (lfN bo)) (nI m) M := by
      rw [n_sub (show 1 ≤ m + 1 by omega), show m + 1 - 1 = m by omega, md_left_L187, if_neg (show ¬ nI m < 0 by rw [n_lit, n_lt (by omega) (by omega)]; omega)]
      simp (disch := omega) only [n_lit, n_mul, n_add, chk_in, n_cl, ra.1, rb.1, n_eq]
      rw [show nI m + -nI 1 = nI m - nI 1 from (Int32.sub_eq_add_neg _ _).symm]
      by_cases a : R (2 * m) = 0
      · rw [if_pos a]
        by_cases b : R (2 * m + 1) = 0
        · rw [if_pos b, if_pos ⟨a, b⟩]
        · rw [if_neg b, if_neg (fun e => b e.2)]
      · rw [if_neg a, if_neg (fun e => a e.1)]
    by_cases q : R (2 * m) = 0 ∧ R (2 * m + 1) = 0
    · obtain ⟨b2, i1, i2, i3⟩ := ih fu bo (by omega) (by omega) (fun l e => ⟨(h1 l e).1, (h1 l e).2.1, fun ov h3 h4 h5 => by
        by_cases e2 : ov = m
        · rw [e2] at h5
          exact absurd q h5
        · exact (h1 l e).2.2 ov (by omega) h4 h5⟩) (fun e ov h3 h4 => by
        by_cases e2 : ov = m
        · rw [e2]; exact q
        · exact h2 e ov (by omega) h4)
      exact ⟨b2, by rw [stp, if_pos q]; exact i1, i2, i3⟩
    · have new : (∀ l, bo = some l → lq (sd (al c) m) ≤ lq l) → ∃ b2, md_left_L187 M K fu (nI (sd (al c) m)) (nI (pc 10 (sd (al c) m))) (nI m - nI 1) = K (lfI b2) ∧ (∀ l, b2 = some l → l < 1024 ∧ (∃ ov, ov < 2 ^ c 1 ∧ ¬ (R (2 * ov) = 0 ∧ R (2 * ov + 1) = 0) ∧ l = sd (al c) ov) ∧ ∀ ov, ov < 2 ^ c 1 → ¬ (R (2 * ov) = 0 ∧ R (2 * ov + 1) = 0) → lq l ≤ lq (sd (al c) ov)) ∧ (b2 = none → ∀ ov, ov < 2 ^ c 1 → R (2 * ov) = 0 ∧ R (2 * ov + 1) = 0) := fun hle => by
        refine ih fu (some (sd (al c) m)) (by omega) (by omega) (fun l e => ?_) (fun e => nomatch e)
        have e : sd (al c) m = l := by injection e
        subst e
        refine ⟨by omega, ⟨m, by omega, q, rfl⟩, fun ov h3 h4 h5 => ?_⟩
        by_cases e2 : ov = m
        · rw [e2]; exact Nat.le_refl _
        · cases hbo : bo with
          | none => exact absurd (h2 hbo ov (by omega) h4) h5
          | some l =>
            have := hle l hbo
            have := (h1 l hbo).2.2 ov (by omega) h4 h5
            omega
      rw [stp, if_neg q, J]
      cases hbo : bo with
      | none =>
        rw [if_pos (show lfI none = -1 from rfl)]
        exact new fun l e => by rw [hbo] at e; exact nomatch e
      | some l =>
        obtain ⟨l1, l2, l3⟩ := h1 l hbo
        have q2 := pc_le 10 l
        have hlI : lfI (some l) = nI l := rfl
        have hlN : lfN (some l) = pc 10 l := rfl
        rw [hlI, hlN, if_neg (nI_nm (by omega))]
        simp (disch := omega) only [n_lt, n_eq]
        have keep : lq l ≤ lq (sd (al c) m) → ∃ b2, md_left_L187 M K fu (nI l) (nI (pc 10 l)) (nI m - nI 1) = K (lfI b2) ∧ (∀ l, b2 = some l → l < 1024 ∧ (∃ ov, ov < 2 ^ c 1 ∧ ¬ (R (2 * ov) = 0 ∧ R (2 * ov + 1) = 0) ∧ l = sd (al c) ov) ∧ ∀ ov, ov < 2 ^ c 1 → ¬ (R (2 * ov) = 0 ∧ R (2 * ov + 1) = 0) → lq l ≤ lq (sd (al c) ov)) ∧ (b2 = none → ∀ ov, ov < 2 ^ c 1 → R (2 * ov) = 0 ∧ R (2 * ov + 1) = 0) := fun hle => by
          refine ih fu (some l) (by omega) (by omega) (fun l' e => ?_) (fun e => nomatch e)
          have e : l = l' := by injection e
          subst e
          refine ⟨l1, l2, fun ov h3 h4 h5 => ?_⟩
          by_cases e2 : ov = m
          · rw [e2]; exact hle
          · exact l3 ov (by omega) h4 h5
        have new' : lq (sd (al c) m) ≤ lq l → _ := fun hle => new fun l' e => by
          rw [hbo] at e
          have e : l = l' := by injection e
          subst e
          exact hle
        unfold lq at keep new'
        by_cases c1 : pc 10 l < pc 10 (sd (al c) m)
        · rw [if_pos c1]
          exact keep (by omega)
        · rw [if_neg c1]
          by_cases c2 : pc 10 (sd (al c) m) = pc 10 l
          · rw [if_pos c2]
            by_cases c3 : l < sd (al c) m
            · rw [if_pos c3]
              exact keep (by omega)
            · rw [if_neg c3]
              exact new' (by omega)
          · rw [if_neg c2]
            exact new' (by omega)
theorem m_left {T : Nat} {X Y : Mem} {c : Nat → Nat} (h : SV T X Y c) (hT : T ≤ 520) : ∃ v X' Y', rf_left X = some (v, X') ∧ md_left Y = some (v, Y') ∧ LV X' c ∧ Z0 X' ∧ (∀ r i, r < 75 → X' r i = X r i) ∧ (∀ r i, ¬ (r = 0 ∧ (i = 0 ∨ i = 17)) → ¬ r = 8 → Y' r i = Y r i) := by
  have hLV := SV_LV h hT
  obtain ⟨hR, hB, hw, hb, hY, hz⟩ := id h
  have hn := WR_n hw
  have h10 := pw_10 hn
  have hs0 := s0_sts hb
  have s2 := sts_2048 hw hs0
  have h3 := hb.2.1
  have h4 : c 4 < 2 ^ c 1 := hb.2.2.1
  obtain ⟨X1, e1, e2, e3, e4, e5⟩ := k_prepare hLV hz
  obtain ⟨X2, G, ns, z, bo, f1, f2, f3⟩ := k_search (bm := true) (g := 1024) e2 (by omega) hs0
  have nogl : ∀ s, sts c s → ¬ gl 1024 s := fun s hs e => by
    have h1 : s / 2 < 2 ^ 10 := by unfold sts at hs; omega
    have h2 : (s / 2 &&& 1024).testBit 10 = false := by rw [Nat.testBit_and, tb_big h1 (by omega), Bool.false_and]
    rw [show s / 2 &&& 1024 = 1024 from e] at h2
    exact Bool.noConfusion h2
  have nowk : ∀ m s a, sts c s → ¬ wk c 1024 m s a := fun m => by
    induction m with
    | zero => exact fun s a hs e => nogl s hs e.1
    | succ m ih => exact fun s a hs ⟨k, a', h1, h2, _⟩ => ih _ a' (nx_lt hw hs h1) h2
  have hbo : bo = none := by
    rcases SD_best f2 hs0 with ⟨q, _⟩ | ⟨a, m, _, q⟩
    · exact q
    · exact absurd q.1 (nowk _ _ _ hs0)
  subst hbo
  obtain ⟨h83, hSM, hV, ⟨a2, a3, a4, a5, a7, a8, a9, a10, a11, b0, b1⟩, hns, hdone⟩ := id f2
  have hset : ∀ s, G s < 2147483647 ↔ ∃ i, i < ns ∧ z i = s := fun s => ⟨fun q => hdone s q (fun b e => nomatch e), fun ⟨i, hi, e⟩ => by rw [← e]; exact a4 i hi⟩
  obtain ⟨x', l1, l2, l3, l4⟩ := ll_L (M := X2) (p1 := nI (2 * c 4 + c 3)) hw hV.2.1.1 hSM.1 hns (fun i hi => ⟨hSM.2.1 i hi, a3 _ (a4 i hi)⟩) (K := fun v2_6 => some (v2_6, X2)) ns 0 (al c) FU (by omega) (by rw [FUe]; omega) (WR_al hw).1 (fun j hj => absurd hj (by omega)) (Or.inl rfl)
  have hE0 : EY (wr Y 0 0 (nI 0)) c := EY_fr hY fun i => wr_ne (by omega)
  obtain ⟨Y1, y1, y2, y3⟩ := rz_L (Q := 2 * 2 ^ c 1) (by omega) (K := fun M4 => (md_stateNow M4).bind fun v5 => chk (inb v5 2048) (md_left_L46 (nI (2 * 2 ^ c 1)) (fun M17 => md_left_L187 M17 (fun v3_21 => some (v3_21, M17)) FU (-nI 1) (nI 0) (((nI 1) <<< ((M17 1 1) &&& nI 31)) - (nI 1))) FU (nI 1) (wr M4 8 v5.toNatClampNeg (nI 1)))) (2 * 2 ^ c 1) 0 FU (wr Y 0 0 (nI 0)) (by omega) (by rw [FUe]; omega)
  have hE1 : EY Y1 c := EY_fr hE0 fun i => y3 1 i (by omega)
  have hE2 : EY (wr Y1 8 (2 * c 4 + c 3) (nI 1)) c := EY_fr hE1 fun i => wr_ne (by omega)
  have hR1 : RR c (wr Y1 8 (2 * c 4 + c 3) (nI 1)) (upf (fun _ => 0) (2 * c 4 + c 3) 1) := fun u hu => by
    by_cases e : u = 2 * c 4 + c 3
    · rw [e, wr_eq, upf_eq]; exact ⟨rfl, by omega⟩
    · rw [wr_ne (by omega), upf_ne e, y2 u (Nat.zero_le _) (by unfold sts at hu; omega)]
      exact ⟨rfl, by omega⟩
  have hI1 : RI c (2 * c 4 + c 3) (upf (fun _ => 0) (2 * c 4 + c 3) 1) := by
    refine ⟨fun u _ hu P p0 _ => ?_, fun u _ hu => ?_, by rw [upf_eq]; omega, fun u hu => ?_⟩
    · by_cases e : u = 2 * c 4 + c 3
      · rw [e]; exact p0
      · rw [upf_ne e] at hu; exact absurd rfl hu
    · by_cases e : u = 2 * c 4 + c 3
      · rw [e, upf_eq] at hu; omega
      · rw [upf_ne e] at hu; omega
    · rw [upf_ne fun e => hu (by rw [e]; exact hs0)]
  obtain ⟨Y2, R, g1, g2, g3, g4, g5, g6⟩ := rt_L hw hb hT (K := fun M17 => md_left_L187 M17 (fun v3_21 => some (v3_21, M17)) FU (-nI 1) (nI 0) (((nI 1) <<< ((M17 1 1) &&& nI 31)) - (nI 1))) 2048 FU _ _ (by omega) (by rw [FUe]; omega) hE2 hR1 hI1
  have hreach : ∀ s, sts c s → (¬ R s = 0 ↔ ∃ i, i < ns ∧ z i = s) := fun s hs => by
    rw [← hset]
    constructor
    · intro q
      refine g4.1 s hs q (fun u => G u < 2147483647) (by rw [a11]; omega) fun u k hu hfu hv => ?_
      obtain ⟨i, hi, e⟩ := (hset u).mp hfu
      have h5 := a7 i hi (by rw [e]; exact nogl u hu) k (by rw [e]; exact hv)
      rw [e] at h5
      have h6 := a8 u hfu
      have h7 : 282625 * ns ≤ 282625 * 2048 := Nat.mul_le_mul_left _ hns
      have h8 := kc1_le (bm := true) (tk_le hw u k)
      omega
    · intro q
      refine a10 (fun u => ¬ R u = 0) g4.2.2.1 (fun u k hu hru hv => ?_) s q
      refine g4.2.1 u hu ?_ k hv
      have := (g3 u hu).2
      have := g5 u
      omega
  obtain ⟨b2, r1, r2, r3⟩ := lb_L hw g2 g3 (K := fun v3_21 => some (v3_21, Y2)) (2 ^ c 1) FU none (by rw [FUe]; omega) (Nat.le_refl _) (fun l e => nomatch e) (fun _ ov h1 h2 => absurd h2 (by omega))
  have hov : ∀ s, s / 2 = c 4 → True := fun _ _ => trivial
  have ro : ∀ i, i < ns → ¬ (R (2 * (z i / 2)) = 0 ∧ R (2 * (z i / 2) + 1) = 0) := fun i hi => by
    have h1 := (hreach (z i) (a3 _ (a4 i hi))).mpr ⟨i, hi, rfl⟩
    have : z i = 2 * (z i / 2) ∨ z i = 2 * (z i / 2) + 1 := by omega
    rcases this with q | q
    · intro e
      rw [← q] at e
      exact h1 e.1
    · intro e
      rw [← q] at e
      exact h1 e.2
  have hs0z : ∃ i, i < ns ∧ z i = 2 * c 4 + c 3 := (hset _).mp (by rw [a11]; omega)
  obtain ⟨i0, hi0, ez0⟩ := hs0z
  have hb2 : ∃ l, b2 = some l := by
    cases hb2 : b2 with
    | some l => exact ⟨l, rfl⟩
    | none =>
      have hlt := a3 _ (a4 i0 hi0)
      exact absurd (r3 hb2 (z i0 / 2) hlt) (ro i0 hi0)
  obtain ⟨l, rfl⟩ := hb2
  obtain ⟨q1, ⟨ov, o1, o2, o3⟩, q3⟩ := r2 l rfl
  have hxl : x' = l := by
    have d1 : lq l ≤ lq x' := by
      rcases l4 with e | ⟨j, hj, e⟩
      · have h1 := q3 (z i0 / 2) (a3 _ (a4 i0 hi0)) (ro i0 hi0)
        have h2 : sd (al c) (z i0 / 2) ≤ al c := sd_le (sd_0.mpr fun i hi => by rw [sd_tb, Bool.and_eq_true] at hi; exact hi.1)
        have h3 := pc_mono (x := sd (al c) (z i0 / 2)) (y := al c) (sd_0.mpr fun i hi => by rw [sd_tb, Bool.and_eq_true] at hi; exact hi.1)
        rw [e]
        unfold lq at h1 ⊢
        omega
      · rw [e]
        exact q3 _ (a3 _ (a4 j hj)) (ro j hj)
    have d2 : lq x' ≤ lq l := by
      have hex : ∃ s, sts c s ∧ s / 2 = ov ∧ ¬ R s = 0 := by
        by_cases e : R (2 * ov) = 0
        · exact ⟨2 * ov + 1, by unfold sts; omega, by omega, fun e2 => o2 ⟨e, e2⟩⟩
        · exact ⟨2 * ov, by unfold sts; omega, by omega, e⟩
      obtain ⟨s, hs, es, hr⟩ := hex
      obtain ⟨i, hi, e⟩ := (hreach s hs).mp hr
      have := l3 i hi
      rw [e, es, ← o3] at this
      exact this
    unfold lq at d1 d2
    omega
  refine ⟨nI x', X2, Y2, ?_, ?_, LV_cong e3 fun r i hr => f3 r i (by omega) (by omega), ⟨?_, ?_, ?_⟩, fun r i hr => by rw [f3 r i (by omega) (by omega), e5 r i (by omega)], fun r i a b => by rw [g6 r i (by omega) b, wr_ne (by omega), y3 r i (by omega), wr_ne (by omega)]⟩
  · unfold rf_left
    rw [e1, bind_s, k_state e3.2.1 h3 (by omega), bind_s]
    unfold pl_leastLeft
    rw [show (1024 : Int32) = nI 1024 from rfl, show (1 : Int32) = bI true from rfl, f1]
    unfold bnd2
    dsimp only
    rw [hV.2.1.1, n_lit 0, l1]
  · unfold md_left
    simp only [n_lit, lt1_ap]
    rw [EY_n hE0 (i := 1) (by omega) (by omega)]
    simp (disch := omega) only [n_m31, n_shl]
    rw [hxl]
    refine y1.trans ?_
    unfold md_stateNow
    simp only [n_lit, bind_s]
    rw [EY_n hE1 (i := 4) (by omega) (by omega), EY_n hE1 (i := 3) (by omega) (by omega), n_mul, n_add]
    simp (disch := omega) only [chk_in, n_cl]
    refine g1.trans ?_
    rw [EY_n g2 (i := 1) (by omega) (by omega)]
    simp (disch := omega) only [n_m31, n_shl1]
    exact r1
  · rw [f3 _ _ (by omega) (by omega)]; exact e4.1
  · rw [f3 _ _ (by omega) (by omega)]; exact e4.2.1
  · rw [f3 _ _ (by omega) (by omega)]; exact e4.2.2
