/-! the class's split -/
def stn (b : Nat → Nat) (e : Nat) : Nat → Nat
  | 0 => skp b e 0
  | j + 1 => nxt b e (stn b e j)
theorem KD_le (b : Nat → Nat) (e p : Nat) : KD b e p ≤ 29 ∧ 1 ≤ KD b e p := by
  unfold KD nmC
  split
  · split
    · split <;> omega
    · split <;> omega
  · omega
theorem KD_end {b : Nat → Nat} {e p : Nat} (h : e ≤ p) : KD b e p = 1 := if_neg (by omega)
theorem ks24 {M : Mem} {e : Nat} {b : Nat → Nat} (h : TX M e b) {p : Nat} (hp : p < e) {K : Int32 → Option Mem} : ∀ m k fu, k + m = beh b e p → p < k → m < fu → tp_split_L24 (nI p) M K fu (nI k) = K (nI (beh b e p))
  | 0, k, 0, _, _, hf => absurd hf (by omega)
  | 0, k, fu + 1, hk, hpk, _ => by
    have h4 := h.2.1
    have hb := h.2.2 p hp
    rw [tp_split_L24, h.1]
    have ek : k = beh b e p := by omega
    have hbe := (beh_gt (b := b) hp).2
    by_cases q : k < e
    · have hk2 := h.2.2 k q
      simp (disch := omega) only [n_lt, if_pos, chk_in, n_cl, hb.1, hk2.1]
      rw [k_goOn hb.2 hk2.2, bind_s]
      have : ((dgB (b p) && dgB (b k)) || (ltB (b p) && ltB (b k))) = false := by
        unfold beh at ek
        by_cases h1 : dgB (b p) = true
        · rw [if_pos h1] at ek
          have h2 : dgB (b k) = false := by
            rw [ek]
            exact run_out (q := fun i => dgB (b i)) (by unfold kD at ek; omega)
          rw [h2, dg_lt h1, Bool.and_false, Bool.false_and]
          rfl
        · rw [if_neg h1] at ek
          have h1' : dgB (b p) = false := Bool.eq_false_iff.mpr h1
          by_cases h3 : ltB (b p) = true
          · rw [if_pos h3] at ek
            have h2 : ltB (b k) = false := by
              rw [ek]
              exact run_out (q := fun i => ltB (b i)) (by unfold kL at ek; omega)
            rw [h2, h1', Bool.and_false, Bool.false_and]
            rfl
          · rw [Bool.eq_false_iff.mpr h3, h1', Bool.false_and, Bool.false_and]
            rfl
      rw [this, if_pos (show bI false = 0 from rfl), ek]
    · simp (disch := omega) only [n_lt, if_neg]
      rw [ek]
  | m + 1, k, 0, _, _, hf => absurd hf (by omega)
  | m + 1, k, fu + 1, hk, hpk, hf => by
    have h4 := h.2.1
    have hbe := (beh_gt (b := b) hp).2
    have hb := h.2.2 p hp
    have hk2 := h.2.2 k (by omega)
    have ih := ks24 h hp (K := K) m (k + 1) fu (by omega) (by omega) (by omega)
    have : ((dgB (b p) && dgB (b k)) || (ltB (b p) && ltB (b k))) = true := by
      have hk' := hk
      unfold beh at hk'
      by_cases h1 : dgB (b p) = true
      · rw [if_pos h1] at hk'
        have h2 : dgB (b k) = true := run_in (q := fun i => dgB (b i)) (e := e) (p := p) (by omega) (by unfold kD at hk'; omega)
        rw [h1, h2]
        rfl
      · rw [if_neg h1] at hk'
        by_cases h3 : ltB (b p) = true
        · rw [if_pos h3] at hk'
          have h2 : ltB (b k) = true := run_in (q := fun i => ltB (b i)) (e := e) (p := p) (by omega) (by unfold kL at hk'; omega)
          rw [h3, h2, Bool.true_and, Bool.or_true]
        · rw [if_neg h3] at hk'
          omega
    rw [tp_split_L24, h.1]
    simp (disch := omega) only [n_lit, n_lt, if_pos, chk_in, n_cl, hb.1, hk2.1, n_add]
    rw [k_goOn hb.2 hk2.2, bind_s, this, if_neg (by decide)]
    exact ih
theorem k_putThing {M : Mem} {e i : Nat} {b : Nat → Nat} (h : TX M e b) {p : Nat} (hp : p < e) (hi : M 1 5 = nI i) (hi4 : i < 400) : ∃ M', tp_putThing (nI p) (nI (beh b e p)) M = some M' ∧ M' 4 i = nI p ∧ M' 3 i = nI (KD b e p) ∧ (KD b e p = 2 → M' 5 i = nI (nvl b p (beh b e p))) ∧ M' 1 5 = nI (i + 1) ∧ (∀ r j, ¬ ((r = 3 ∨ r = 4 ∨ r = 5) ∧ j = i) → ¬ (r = 1 ∧ j = 5) → M' r j = M r j) := by
  have h4 := h.2.1
  have hb := h.2.2 p hp
  obtain ⟨g1, g2⟩ := beh_gt (b := b) hp
  have hT1 : TX (wr M 4 i (nI p)) e b := TX_cong h fun r j hr => wr_ne (by omega)
  have e5 : wr M 4 i (nI p) 1 5 = nI i := by rw [wr_ne (by omega), hi]
  have start : tp_putThing (nI p) (nI (beh b e p)) M = if bI (dgB (b p)) = nI 0 then some (wr (wr (wr M 4 i (nI p)) 3 i (nI (nmC b p (beh b e p)))) 1 5 (nI (i + 1))) else if 3 < beh b e p - p then tp_putThing_J45 (nI p) (nI (beh b e p)) (nI 0) (wr M 4 i (nI p)) else tp_putThing_J45 (nI p) (nI (beh b e p)) (nI 1) (wr M 4 i (nI p)) := by
    unfold tp_putThing
    rw [hi]
    simp (disch := omega) only [n_lit, n_lt, if_pos, chk_in, n_cl, lt1_ap, n_sub]
    rw [wr_ne (M := M) (r := 4) (r' := 2) (by omega), hb.1, k_dg hb.2, bind_s, k_name hT1 g2 (by omega), bind_s, e5, n_cl (by omega), chk_in (by omega) (by omega), wr_ne (by omega), e5, n_add]
  by_cases hd : dgB (b p) = true
  · have hge : ∀ k, p ≤ k → k < beh b e p → 48 ≤ b k := fun k a d => by
      have eb : beh b e p = kD b e p := if_pos hd
      have := run_in (q := fun i => dgB (b i)) (e := e) (p := p) a (by unfold kD at eb; omega)
      unfold dgB at this
      rw [decide_eq_true_iff] at this
      exact this.1
    rw [hd, if_neg (by decide)] at start
    by_cases h3 : 3 < beh b e p - p
    · have hK : KD b e p = 3 := by unfold KD; rw [if_pos hp, if_pos hd, if_neg (by omega)]
      refine ⟨wr (wr (wr (wr M 4 i (nI p)) 3 i (nI 3)) 5 i (nI 0)) 1 5 (nI (i + 1)), ?_, by rw [wr_ne (by omega), wr_ne (by omega), wr_ne (by omega), wr_eq], by rw [wr_ne (by omega), wr_ne (by omega), wr_eq, hK], fun e2 => by omega, wr_eq, fun r j h1 h2 => by rw [wr_ne h2, wr_ne (by omega), wr_ne (by omega), wr_ne (by omega)]⟩
      rw [start, if_pos h3]
      unfold tp_putThing_J45 tp_putThing_J67
      simp (disch := omega) only [n_lit, if_true, e5, chk_in, n_cl, lt1_ap]
      rw [wr_ne (r := 3) (r' := 1) (by omega), e5, wr_ne (r := 5) (r' := 1) (by omega), wr_ne (r := 3) (r' := 1) (by omega), e5]
      simp (disch := omega) only [chk_in, n_cl, n_add]
    · have hK : KD b e p = 2 := by unfold KD; rw [if_pos hp, if_pos hd, if_pos (by omega)]
      have hT2 : TX (wr (wr M 4 i (nI p)) 3 i (nI 2)) e b := TX_cong hT1 fun r j hr => wr_ne (by omega)
      have hnum : tp_numberOf (nI p) (nI (beh b e p)) (wr (wr M 4 i (nI p)) 3 i (nI 2)) = some (nI (nvl b p (beh b e p))) := kn_L hT2 g2 (fun _ _ => trivial) (K := fun v3_1 => some (v3_1)) (beh b e p - p) p 0 FU (by omega) (by rw [FUe]; omega) hge
      refine ⟨wr (wr (wr (wr M 4 i (nI p)) 3 i (nI 2)) 5 i (nI (nvl b p (beh b e p)))) 1 5 (nI (i + 1)), ?_, by rw [wr_ne (by omega), wr_ne (by omega), wr_ne (by omega), wr_eq], by rw [wr_ne (by omega), wr_ne (by omega), wr_eq, hK], fun _ => by rw [wr_ne (by omega), wr_eq], wr_eq, fun r j h1 h2 => by rw [wr_ne h2, wr_ne (by omega), wr_ne (by omega), wr_ne (by omega)]⟩
      rw [start, if_neg h3]
      unfold tp_putThing_J45 tp_putThing_J67
      simp (disch := omega) only [n_lit, n_eq, if_false, e5, chk_in, n_cl, lt1_ap, if_neg]
      rw [hnum, bind_s, wr_ne (r := 3) (r' := 1) (by omega), e5, wr_ne (r := 5) (r' := 1) (by omega), wr_ne (r := 3) (r' := 1) (by omega), e5]
      simp (disch := omega) only [chk_in, n_cl, n_add]
  · have hK : KD b e p = nmC b p (beh b e p) := by unfold KD; rw [if_pos hp, if_neg hd]
    rw [Bool.eq_false_iff.mpr hd, if_pos (show bI false = nI 0 from rfl)] at start
    refine ⟨_, start, by rw [wr_ne (by omega), wr_ne (by omega), wr_eq], by rw [wr_ne (by omega), wr_eq, hK], fun e2 => ?_, wr_eq, fun r j h1 h2 => by rw [wr_ne h2, wr_ne (by omega), wr_ne (by omega)]⟩
    exfalso
    rw [hK] at e2
    unfold nmC at e2
    by_cases h3 : ff (fun i => mtB b p (beh b e p) (stx i)) 0 29 < 29
    · rw [if_pos h3] at e2
      have e1 : ff (fun i => mtB b p (beh b e p) (stx i)) 0 29 = 1 := by omega
      rcases ff_spec (p := fun i => mtB b p (beh b e p) (stx i)) (m := 29) (k := 0) with ⟨_, b1, _⟩ | ⟨a, _⟩
      · rw [e1] at b1
        unfold mtB at b1
        rw [Bool.and_eq_true, decide_eq_true_iff] at b1
        have h5 : slen (stx 1) = 0 := by decide
        omega
      · omega
    · rw [if_neg h3] at e2
      omega
/-- the things of the tape, the tape at the i-th -/
def TKs (M : Mem) (b : Nat → Nat) (e last i : Nat) : Prop := M 1 5 = nI last ∧ M 1 6 = nI i ∧ i ≤ last ∧ last ≤ 400 ∧ stn b e last = e ∧ (∀ j, j < last → stn b e j < e) ∧ ∀ j, j ≤ last → M 3 j = nI (KD b e (stn b e j)) ∧ M 4 j = nI (stn b e j) ∧ (KD b e (stn b e j) = 2 → M 5 j = nI (nvl b (stn b e j) (beh b e (stn b e j))))
theorem ks12 {e : Nat} {b : Nat → Nat} {K : Mem → Option Mem} : ∀ m p i fu (M : Mem), p + m = e → m < fu → TX M e b → M 1 5 = nI i → i ≤ p → skp b e p = stn b e i → (∀ j, j < i → stn b e j < e ∧ M 3 j = nI (KD b e (stn b e j)) ∧ M 4 j = nI (stn b e j) ∧ (KD b e (stn b e j) = 2 → M 5 j = nI (nvl b (stn b e j) (beh b e (stn b e j))))) → ∃ M' last, tp_split_L12 K fu (nI p) M = K M' ∧ TX M' e b ∧ M' 1 5 = nI last ∧ last ≤ e ∧ stn b e last = e ∧ (∀ j, j < last → stn b e j < e ∧ M' 3 j = nI (KD b e (stn b e j)) ∧ M' 4 j = nI (stn b e j) ∧ (KD b e (stn b e j) = 2 → M' 5 j = nI (nvl b (stn b e j) (beh b e (stn b e j))))) ∧ (∀ r j, ¬ (3 ≤ r ∧ r ≤ 5) → ¬ (r = 1 ∧ j = 5) → M' r j = M r j) := by
  intro m
  induction m using Nat.strongRecOn with
  | ind m ih =>
    intro p i fu M hp hf hT h5 hip hsk hd
    obtain ⟨fu, rfl⟩ : ∃ f, fu = f + 1 := ⟨fu - 1, by omega⟩
    have h4 := hT.2.1
    by_cases hpe : p < e
    · obtain ⟨g1, g2⟩ := beh_gt (b := b) hpe
      have hb := hT.2.2 p hpe
      have stp : tp_split_L12 K (fu + 1) (nI p) M = if b p = 32 then tp_split_L12 K fu (nI (beh b e p)) M else (tp_putThing (nI p) (nI (beh b e p)) M).bind (fun M5 => tp_split_L12 K fu (nI (beh b e p)) M5) := by
        rw [tp_split_L12, hT.1]
        simp (disch := omega) only [n_lit, n_lt, if_pos, n_add]
        rw [ks24 hT hpe (beh b e p - (p + 1)) (p + 1) FU (by omega) (by omega) (by rw [FUe]; omega)]
        unfold tp_split_J56
        simp (disch := omega) only [n_lit, chk_in, n_cl, hb.1, n_eq]
      by_cases q : b p = 32
      · have eb : beh b e p = p + 1 := by
          unfold beh dgB ltB
          rw [if_neg (by rw [decide_eq_true_iff]; omega), if_neg (by rw [decide_eq_true_iff]; omega)]
        have es : skp b e p = skp b e (p + 1) := run_go hpe (decide_eq_true q)
        obtain ⟨M', last, i1, i2⟩ := ih (m - 1) (by omega) (p + 1) i fu M (by omega) (by omega) hT h5 (by omega) (by rw [← es]; exact hsk) hd
        refine ⟨M', last, ?_, i2⟩
        rw [stp, if_pos q, eb]
        exact i1
      · have es : skp b e p = p := run_stop fun h => q (by have := h.2; rw [decide_eq_true_iff] at this; exact this)
        rw [es] at hsk
        obtain ⟨M1, f1, f2, f3, f4, f5, f6⟩ := k_putThing hT hpe h5 (by omega)
        obtain ⟨M', last, i1, i2, i3, i4, i5, i6, i7⟩ := ih (m - (beh b e p - p)) (by omega) (beh b e p) (i + 1) fu M1 (by omega) (by omega) (TX_cong hT fun r j hr => f6 r j (by omega) (by omega)) f5 (by omega) (by rw [hsk]; rfl) (fun j hj => by
          by_cases e2 : j = i
          · subst e2
            rw [← hsk]
            exact ⟨hpe, f3, f2, f4⟩
          · rw [f6 _ _ (by omega) (by omega), f6 _ _ (by omega) (by omega), f6 _ _ (by omega) (by omega)]
            exact hd j (by omega))
        refine ⟨M', last, ?_, i2, i3, i4, i5, i6, fun r j a d => by rw [i7 r j a d, f6 r j (by omega) d]⟩
        rw [stp, if_neg q, f1, bind_s]
        exact i1
    · have hpe : p = e := by omega
      subst hpe
      have es : skp b p p = p := run_stop fun h => by omega
      refine ⟨M, i, ?_, hT, h5, hip, by rw [← hsk, es], hd, fun _ _ _ _ => rfl⟩
      rw [tp_split_L12, hT.1]
      simp (disch := omega) only [n_lit, n_lt, if_neg]
/-- the tape stands at p -/
def TPo (M : Mem) (b : Nat → Nat) (e p : Nat) : Prop := ∃ last i, TKs M b e last i ∧ stn b e i = p
theorem k_split {M : Mem} {e : Nat} {b : Nat → Nat} (hT : TX M e b) : ∃ M', tp_split M = some M' ∧ TPo M' b e (skp b e 0) ∧ (∀ r j, ¬ (3 ≤ r ∧ r ≤ 5) → ¬ (r = 1 ∧ (j = 5 ∨ j = 6)) → M' r j = M r j) := by
  have h4 := hT.2.1
  obtain ⟨M', last, i1, i2, i3, i4, i5, i6, i7⟩ := ks12 (e := e) (b := b) (K := fun M7 => chk (inb (M7 1 5) 401) (wr M7 3 (M7 1 5).toNatClampNeg (nI 1) |> fun M8 => chk (inb (M8 1 5) 401) (some (wr M8 4 (M8 1 5).toNatClampNeg (M8 1 1))))) e 0 0 FU (wr (wr M 1 5 (nI 0)) 1 6 (nI 0)) (by omega) (by rw [FUe]; omega) (TX_cong hT fun r j hr => by rw [wr_ne (by omega), wr_ne (by omega)]) (by rw [wr_ne (by omega), wr_eq]) (Nat.le_refl _) rfl (fun j hj => absurd hj (by omega))
  refine ⟨wr (wr M' 3 last (nI 1)) 4 last (nI e), ?_, ⟨last, 0, ⟨by rw [wr_ne (by omega), wr_ne (by omega), i3], by rw [wr_ne (by omega), wr_ne (by omega), i7 _ _ (by omega) (by omega), wr_eq], Nat.zero_le _, by omega, i5, fun j hj => (i6 j hj).1, fun j hj => ?_⟩, rfl⟩, fun r j a d => by rw [wr_ne (by omega), wr_ne (by omega), i7 r j a (by omega), wr_ne (by omega), wr_ne (by omega)]⟩
  · unfold tp_split
    simp only [n_lit, lt1_ap]
    refine Eq.trans i1 ?_
    rw [i3]
    simp (disch := omega) only [chk_in, n_cl]
    rw [wr_ne (M := M') (by omega), i3, wr_ne (M := M') (by omega), i2.1]
    simp (disch := omega) only [chk_in, n_cl]
  · by_cases e2 : j = last
    · subst e2
      rw [wr_ne (by omega), wr_eq, wr_eq, i5, KD_end (Nat.le_refl e)]
      exact ⟨rfl, rfl, fun e3 => by omega⟩
    · rw [wr_ne (by omega), wr_ne (by omega), wr_ne (by omega), wr_ne (by omega), wr_ne (by omega), wr_ne (by omega)]
      exact (i6 j (by omega)).2
theorem TPo_le {M : Mem} {b : Nat → Nat} {e p : Nat} (h : TPo M b e p) : p ≤ e := by
  obtain ⟨last, i, ⟨h1, h2, h3, h4, h5, h6, h7⟩, rfl⟩ := h
  by_cases q : i = last
  · rw [q, h5]; exact Nat.le_refl _
  · exact Nat.le_of_lt (h6 i (by omega))
theorem TPo_cong {M M' : Mem} {b : Nat → Nat} {e p : Nat} (h : TPo M b e p) (h2 : ∀ r i, ((r = 1 ∧ (i = 5 ∨ i = 6)) ∨ (3 ≤ r ∧ r ≤ 5)) → M' r i = M r i) : TPo M' b e p := by
  obtain ⟨last, i, ⟨a1, a2, a3, a4, a5, a6, a7⟩, rfl⟩ := h
  refine ⟨last, i, ⟨by rw [h2 _ _ (by omega), a1], by rw [h2 _ _ (by omega), a2], a3, a4, a5, a6, fun j hj => ?_⟩, rfl⟩
  rw [h2 _ _ (by omega), h2 _ _ (by omega), h2 _ _ (by omega)]
  exact a7 j hj
theorem k_thing {M : Mem} {b : Nat → Nat} {e p : Nat} (h : TPo M b e p) : tp_thing M = some (nI (KD b e p)) := by
  obtain ⟨last, i, ⟨h1, h2, h3, h4, h5, h6, h7⟩, rfl⟩ := h
  unfold tp_thing
  rw [h2, chk_in (by omega) (by omega), n_cl (by omega), (h7 i h3).1]
theorem k_start {M : Mem} {b : Nat → Nat} {e p : Nat} (h : TPo M b e p) : tp_start M = some (nI p) := by
  obtain ⟨last, i, ⟨h1, h2, h3, h4, h5, h6, h7⟩, rfl⟩ := h
  unfold tp_start
  rw [h2, chk_in (by omega) (by omega), n_cl (by omega), (h7 i h3).2.1]
theorem k_number {M : Mem} {b : Nat → Nat} {e p : Nat} (h : TPo M b e p) : ∃ v, tp_number M = some v ∧ (KD b e p = 2 → v = nI (nvl b p (beh b e p))) := by
  obtain ⟨last, i, ⟨h1, h2, h3, h4, h5, h6, h7⟩, rfl⟩ := h
  unfold tp_number
  rw [h2, chk_in (by omega) (by omega), n_cl (by omega)]
  exact ⟨_, rfl, (h7 i h3).2.2⟩
/-- one thing on -/
def mvT (M : Mem) : Mem := wr M 1 6 (M 1 6 + 1)
theorem k_next {M : Mem} {b : Nat → Nat} {e p : Nat} (h : TPo M b e p) (hp : p < e) : tp_next M = some (mvT M) ∧ TPo (mvT M) b e (nxt b e p) := by
  obtain ⟨last, i, ⟨h1, h2, h3, h4, h5, h6, h7⟩, rfl⟩ := h
  have hi : i < last := by
    refine Classical.byContradiction fun q => ?_
    have : i = last := by omega
    rw [this, h5] at hp
    omega
  refine ⟨?_, last, i + 1, ⟨?_, ?_, by omega, h4, h5, h6, fun j hj => ?_⟩, rfl⟩
  · unfold tp_next mvT
    rw [h1, h2]
    simp (disch := omega) only [n_lit, n_lt, if_pos, lt1_ap]
  · unfold mvT
    rw [wr_ne (by omega), h1]
  · unfold mvT
    rw [wr_eq, h2, n_lit, n_add]
  · unfold mvT
    rw [wr_ne (by omega), wr_ne (by omega), wr_ne (by omega)]
    exact h7 j hj
theorem teq_n {a w : Nat} (ha : a < 30) (hw : w < 30) : teq (nI a) (nI w) = decide (a = w) := by
  unfold teq
  rw [n_cl (by omega), n_cl (by omega), Nat.mod_eq_of_lt ha, Nat.mod_eq_of_lt hw]
  by_cases q : a = w
  · rw [q, decide_eq_true rfl, beq_self_eq_true]
  · rw [decide_eq_false q]
    exact beq_eq_false_iff_ne.mpr q
theorem k_take_yes {M : Mem} {b : Nat → Nat} {e p w : Nat} (h : TPo M b e p) (hw : w < 30) (h1w : 1 < w) (hk : KD b e p = w) : tp_take (nI w) M = some (nI 1, mvT M) ∧ TPo (mvT M) b e (nxt b e p) := by
  have hp : p < e := by
    refine Classical.byContradiction fun q => ?_
    rw [KD_end (by omega)] at hk
    omega
  obtain ⟨n1, n2⟩ := k_next h hp
  refine ⟨?_, n2⟩
  obtain ⟨last, i, ⟨h1, h2, h3, h4, h5, h6, h7⟩, rfl⟩ := h
  have hi : i < last := by
    refine Classical.byContradiction fun q => ?_
    have : i = last := by omega
    rw [this, h5] at hp
    omega
  unfold tp_take
  rw [h2, chk_in (by omega) (by omega), n_cl (by omega), (h7 i h3).1, hk, teq_n hw hw, decide_eq_true rfl, if_pos rfl, h1, if_pos (by rw [n_lt (by omega) (by omega)]; exact hi), lt1_ap]
  unfold mvT
  rw [h2]
  rfl
theorem k_take_no {M : Mem} {b : Nat → Nat} {e p w : Nat} (h : TPo M b e p) (hw : w < 30) (hk : ¬ KD b e p = w) : tp_take (nI w) M = some (nI 0, M) := by
  have hl := (KD_le b e p).1
  obtain ⟨last, i, ⟨h1, h2, h3, h4, h5, h6, h7⟩, rfl⟩ := h
  unfold tp_take
  rw [h2, chk_in (by omega) (by omega), n_cl (by omega), (h7 i h3).1, teq_n (by omega) hw, decide_eq_false hk, if_neg (by decide)]
  rfl
