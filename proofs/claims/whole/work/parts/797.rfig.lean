/-! the reference reads a number -/
theorem nvF_snoc {b : Nat → Nat} : ∀ m p v, nvF b (m + 1) p v = 10 * nvF b m p v + (b (p + m) - 48)
  | 0, p, v => rfl
  | m + 1, p, v => by
    have := nvF_snoc (b := b) m (p + 1) (10 * v + (b p - 48))
    show nvF b (m + 1) (p + 1) (10 * v + (b p - 48)) = 10 * nvF b m (p + 1) (10 * v + (b p - 48)) + _
    rw [this, show p + 1 + m = p + (m + 1) by omega]
def fgE (b : Nat → Nat) (e p : Nat) : Nat := min (kD b e p) (p + 4)
theorem fgE_le {b : Nat → Nat} {e p : Nat} (hp : p ≤ e) : p ≤ fgE b e p ∧ fgE b e p ≤ e := by
  have h1 : p ≤ kD b e p := run_ge
  have h2 : kD b e p ≤ e := run_le hp
  unfold fgE
  omega
theorem fgV_le {b : Nat → Nat} {e p : Nat} : nvF b (fgE b e p - p) p 0 ≤ 9999 := by
  have h1 : p ≤ kD b e p := run_ge
  have h5 := nvF_le (b := b) (fgE b e p - p) p 0 (fun i a d => run_in (q := fun i => dgB (b i)) (e := e) a (by
    have : i < kD b e p := by unfold fgE at d; omega
    exact this))
  have h6 : 10 ^ (fgE b e p - p) ≤ 10 ^ 4 := Nat.pow_le_pow_right (by decide) (by unfold fgE; omega)
  have h7 : 10 ^ 4 = 10000 := rfl
  omega
theorem rfg_L {b : Nat → Nat} {e p : Nat} {lo hi : Int32} {K : Int32 → Mem → Option (Int32 × Mem)} (hp : p ≤ e) : ∀ m q fu (Y : Mem), q + m = fgE b e p → m < fu → p ≤ q → LTx Y b e → Y 0 9 = nI q → md_figures_L22 lo hi (nI p) K fu (nI (nvF b (q - p) p 0)) Y = K (nI (nvF b (fgE b e p - p) p 0)) (setA Y (fgE b e p)) := by
  intro m
  induction m with
  | zero =>
    intro q fu Y hm hf hq hL h9
    obtain ⟨fu, rfl⟩ : ∃ f, fu = f + 1 := ⟨fu - 1, by omega⟩
    have he := hL.2.1
    have hE := fgE_le (b := b) hp
    obtain rfl : q = fgE b e p := by omega
    have es : setA Y (fgE b e p) = Y := wr_same h9
    rw [md_figures_L22, h9, hL.1, es]
    by_cases c1 : fgE b e p < e
    · have hb := hL.2.2.1 _ c1
      rw [if_pos (by rw [n_lt (by omega) (by omega)]; exact c1), r_letter hL c1, bind_s, show md_isIn (nI (b (fgE b e p))) 48 57 Y = md_isIn (nI (b (fgE b e p))) (nI 48) (nI 57) Y from rfl, r_isIn (by omega) (by omega) (by omega), bind_s, show decide (48 ≤ b (fgE b e p) ∧ b (fgE b e p) ≤ 57) = dgB (b (fgE b e p)) from rfl]
      by_cases c2 : dgB (b (fgE b e p)) = true
      · have h4 : fgE b e p = p + 4 := by
          refine Classical.byContradiction fun h => ?_
          have e1 : fgE b e p = kD b e p := by unfold fgE at h ⊢; omega
          have e2 : kD b e p < e := by omega
          have := run_out (q := fun i => dgB (b i)) (e := e) (p := p) e2
          rw [e1] at c2
          have h2 : dgB (b (kD b e p)) = false := this
          rw [h2] at c2
          exact Bool.noConfusion c2
        rw [ifb_t c2, n_sub (by omega), if_neg (by rw [show (4 : Int32) = nI 4 from rfl, n_lt (by omega) (by omega)]; omega)]
      · rw [ifb_f (Bool.eq_false_iff.mpr c2)]
    · rw [if_neg (by rw [n_lt (by omega) (by omega)]; exact c1)]
  | succ m ih =>
    intro q fu Y hm hf hq hL h9
    obtain ⟨fu, rfl⟩ : ∃ f, fu = f + 1 := ⟨fu - 1, by omega⟩
    have he := hL.2.1
    have hE := fgE_le (b := b) hp
    have hqk : q < kD b e p ∧ q < p + 4 := by unfold fgE at hm; omega
    have hqe : q < e := by omega
    have hb := hL.2.2.1 q hqe
    have hd : dgB (b q) = true := run_in (q := fun i => dgB (b i)) (e := e) hq hqk.1
    have hd2 := hd
    unfold dgB at hd2
    rw [decide_eq_true_iff] at hd2
    have ih := ih (q + 1) fu (setA Y (q + 1)) (by omega) (by omega) (by omega) (LTx_A hL _) wr_eq
    rw [show q + 1 - p = (q - p) + 1 by omega, nvF_snoc, show p + (q - p) = q by omega] at ih
    rw [md_figures_L22, h9, hL.1, if_pos (by rw [n_lt (by omega) (by omega)]; exact hqe), r_letter hL hqe, bind_s, show md_isIn (nI (b q)) 48 57 Y = md_isIn (nI (b q)) (nI 48) (nI 57) Y from rfl, r_isIn (by omega) (by omega) (by omega), bind_s, show decide (48 ≤ b q ∧ b q ≤ 57) = dgB (b q) from rfl, ifb_t hd, n_sub (by omega), if_pos (by rw [show (4 : Int32) = nI 4 from rfl, n_lt (by omega) (by omega)]; omega), bind_s, lt1_ap, lt1_ap]
    simp only [n_lit]
    rw [n_mul, n_add, n_sub (by omega), n_add, show 10 * nvF b (q - p) p 0 + b q - 48 = 10 * nvF b (q - p) p 0 + (b q - 48) by omega]
    unfold setA at ih ⊢
    rw [wr_wr] at ih
    exact ih
theorem KD2 {b : Nat → Nat} {e p : Nat} (hp : p ≤ e) : (KD b e p = 2 ↔ p < kD b e p ∧ kD b e p ≤ p + 3) ∧ (KD b e p = 2 → beh b e p = kD b e p ∧ fgE b e p = kD b e p) := by
  have h1 : p ≤ kD b e p := run_ge
  have hk : p < kD b e p → p < e ∧ dgB (b p) = true := fun h => by
    have h2 : dgB (b p) = true := run_in (q := fun i => dgB (b i)) (e := e) (Nat.le_refl p) h
    have h3 : kD b e p ≤ e := run_le hp
    exact ⟨by omega, h2⟩
  have hd : KD b e p = 2 → p < e ∧ dgB (b p) = true ∧ beh b e p - p ≤ 3 := fun h => by
    unfold KD at h
    by_cases h1 : p < e
    · rw [if_pos h1] at h
      by_cases h2 : dgB (b p) = true
      · rw [if_pos h2] at h
        by_cases h3 : beh b e p - p ≤ 3
        · exact ⟨h1, h2, h3⟩
        · rw [if_neg h3] at h
          omega
      · rw [if_neg h2] at h
        unfold nmC at h
        by_cases h3 : ff (fun i => mtB b p (beh b e p) (stx i)) 0 29 < 29
        · rw [if_pos h3] at h
          have e1 : ff (fun i => mtB b p (beh b e p) (stx i)) 0 29 = 1 := by omega
          rcases ff_spec (p := fun i => mtB b p (beh b e p) (stx i)) (m := 29) (k := 0) with ⟨_, b1, _⟩ | ⟨a, _⟩
          · rw [e1] at b1
            unfold mtB at b1
            rw [Bool.and_eq_true, decide_eq_true_iff] at b1
            have h4 := (beh_gt (b := b) h1).1
            have h5 : slen (stx 1) = 0 := by decide
            omega
          · omega
        · rw [if_neg h3] at h
          omega
    · rw [if_neg h1] at h
      omega
  have hb : dgB (b p) = true → beh b e p = kD b e p := fun h => if_pos h
  refine ⟨⟨fun h => ?_, fun h => ?_⟩, fun h => ?_⟩
  · obtain ⟨a1, a2, a3⟩ := hd h
    have := beh_gt (b := b) a1
    rw [hb a2] at this a3
    omega
  · obtain ⟨a1, a2⟩ := hk h.1
    unfold KD
    rw [if_pos a1, if_pos a2, if_pos (by rw [hb a2]; omega)]
  · obtain ⟨a1, a2, a3⟩ := hd h
    rw [hb a2] at a3
    refine ⟨hb a2, ?_⟩
    unfold fgE
    omega
theorem r_wrong {Y : Mem} (p : Int32) (h : Y 0 10 = -1) : md_wrong p Y = some (wr Y 0 10 p) := by
  unfold md_wrong
  rw [h, if_pos rfl, lt1_ap]
theorem r_wrong_f {Y : Mem} (p : Int32) (h : ¬ Y 0 10 = -1) : md_wrong p Y = some Y := by
  unfold md_wrong
  rw [if_neg h]
/-- a number from lo to below H, in the reference -/
theorem r_figures {Y : Mem} {b : Nat → Nat} {e a lo H : Nat} {hi : Int32} (hL : LTx Y b e) (h9 : Y 0 9 = nI a) (ha : a ≤ e) (hf : Y 0 10 = -1) (hlo : lo ≤ 1000) (hhi : ∀ v, v ≤ 9999 → ((hi < nI v) ↔ H ≤ v)) :
    (KD b e (skp b e a) = 2 → lo ≤ nvl b (skp b e a) (beh b e (skp b e a)) → nvl b (skp b e a) (beh b e (skp b e a)) < H → md_figures (nI lo) hi Y = some (nI (nvl b (skp b e a) (beh b e (skp b e a))), setA Y (beh b e (skp b e a)))) ∧
    (¬ (KD b e (skp b e a) = 2 ∧ lo ≤ nvl b (skp b e a) (beh b e (skp b e a)) ∧ nvl b (skp b e a) (beh b e (skp b e a)) < H) → ∃ v a', v ≤ 9999 ∧ a' ≤ e ∧ md_figures (nI lo) hi Y = some (nI v, wr (setA Y a') 0 10 (nI (skp b e a)))) := by
  have he := hL.2.1
  have hs : skp b e a ≤ e := by
    have := (skp_bd (b := b) (e := e) (a := a)).2
    omega
  generalize hp : skp b e a = p at *
  have hE := fgE_le (b := b) hs
  have hk1 : p ≤ kD b e p := run_ge
  have hV := fgV_le (b := b) (e := e) (p := p)
  have hA : ∀ r i, ¬ (r = 0 ∧ i = 9) → setA (setA Y p) (fgE b e p) r i = Y r i := fun r i h => by
    unfold setA
    rw [wr_ne h, wr_ne h]
  have eA : setA (setA Y p) (fgE b e p) = setA Y (fgE b e p) := wr_wr
  have e9 : setA Y (fgE b e p) 0 9 = nI (fgE b e p) := wr_eq
  have hf2 : setA Y (fgE b e p) 0 10 = -1 := by
    unfold setA
    rw [wr_ne (by omega), hf]
  have start : md_figures (nI lo) hi Y = md_figures_J93 (nI lo) hi (nI p) (nI (nvF b (fgE b e p - p) p 0)) (setA Y (fgE b e p)) := by
    unfold md_figures
    rw [hf, if_pos rfl, r_skip hL h9 (by omega), bind_s, hp, show setA Y p 0 9 = nI p from wr_eq]
    have := rfg_L (b := b) (e := e) (lo := nI lo) (hi := hi) (K := fun v4_6 M8 => md_figures_J93 (nI lo) hi (nI p) v4_6 M8) hs (fgE b e p - p) p FU (setA Y p) (by omega) (by rw [FUe]; omega) (Nat.le_refl _) (LTx_A hL _) wr_eq
    rw [Nat.sub_self, eA] at this
    exact this
  have bad : ∀ {A : Option (Int32 × Mem)}, A = (md_wrong (nI p) (setA Y (fgE b e p))).bind (fun M9 => some (nI (nvF b (fgE b e p - p) p 0), M9)) → ∃ v a', v ≤ 9999 ∧ a' ≤ e ∧ A = some (nI v, wr (setA Y a') 0 10 (nI p)) := fun h => by
    rw [r_wrong _ hf2, bind_s] at h
    exact ⟨_, _, hV, hE.2, h⟩
  obtain ⟨k1, k2⟩ := KD2 (b := b) hs
  constructor
  · intro g1 g2 g3
    obtain ⟨a1, a2⟩ := k1.mp g1
    obtain ⟨a3, a4⟩ := k2 g1
    have ev : nvl b p (beh b e p) = nvF b (fgE b e p - p) p 0 := by unfold nvl; rw [a3, a4]
    rw [ev] at g2 g3 ⊢
    rw [start]
    unfold md_figures_J93
    rw [e9, if_neg (by rw [n_eq (by omega) (by omega)]; omega), n_sub (by omega), if_neg (by rw [show (3 : Int32) = nI 3 from rfl, n_lt (by omega) (by omega)]; omega), if_neg (by rw [n_lt (by omega) (by omega)]; omega), if_neg (by rw [hhi _ hV]; omega), a3, a4]
  · intro g
    rw [start]
    unfold md_figures_J93
    rw [e9]
    by_cases q1 : fgE b e p = p
    · rw [if_pos (by rw [q1])]
      exact bad rfl
    · rw [if_neg (by rw [n_eq (by omega) (by omega)]; exact q1), n_sub (by omega)]
      by_cases q2 : 3 < fgE b e p - p
      · rw [if_pos (by rw [show (3 : Int32) = nI 3 from rfl, n_lt (by omega) (by omega)]; exact q2)]
        exact bad rfl
      · rw [if_neg (by rw [show (3 : Int32) = nI 3 from rfl, n_lt (by omega) (by omega)]; exact q2)]
        have hK : KD b e p = 2 := k1.mpr (by unfold fgE at q1 q2; omega)
        obtain ⟨a3, a4⟩ := k2 hK
        have ev : nvl b p (beh b e p) = nvF b (fgE b e p - p) p 0 := by unfold nvl; rw [a3, a4]
        rw [ev] at g
        by_cases q3 : nvF b (fgE b e p - p) p 0 < lo
        · rw [if_pos (by rw [n_lt (by omega) (by omega)]; exact q3)]
          exact bad rfl
        · rw [if_neg (by rw [n_lt (by omega) (by omega)]; exact q3)]
          by_cases q4 : H ≤ nvF b (fgE b e p - p) p 0
          · rw [if_pos ((hhi _ hV).mpr q4)]
            exact bad rfl
          · exact absurd ⟨hK, by omega, by omega⟩ g
theorem r_figures_f {Y : Mem} (lo hi : Int32) (h : ¬ Y 0 10 = -1) : md_figures lo hi Y = some (0, Y) := by
  unfold md_figures
  rw [if_neg h]
theorem r_being_f {Y : Mem} (p1 p2 : Int32) (h : ¬ Y 0 10 = -1) : md_being p1 p2 Y = some (0, Y) := by
  unfold md_being
  rw [if_neg h]
theorem r_has_yes {Y : Mem} {b : Nat → Nat} {e p w k : Nat} (hL : LTx Y b e) (h9 : Y 0 9 = nI p) (hp : skp b e p = p) (hpe : p ≤ e) (h : WPr w k) (hk : KD b e p = k) : md_has w Y = some (1, setA Y (beh b e p)) := by
  have he := hL.2.1
  obtain ⟨k1, k2⟩ := has_KD (b := b) (e := e) (p := p) h
  have h1 := k1.mpr hk
  have := r_has hL h9 (by omega) h.1 (by rw [h.2.2.2.1]; exact (stx_word (k - 1) (by have := h.2.2.1; omega) (by have := h.2.1; omega)).1)
  rw [hp, h1, if_pos rfl, (k2 h1).1] at this
  exact this
theorem r_has_no {Y : Mem} {b : Nat → Nat} {e p w k : Nat} (hL : LTx Y b e) (h9 : Y 0 9 = nI p) (hp : skp b e p = p) (hpe : p ≤ e) (h : WPr w k) (hk : ¬ KD b e p = k) : md_has w Y = some (0, Y) := by
  have he := hL.2.1
  obtain ⟨k1, k2⟩ := has_KD (b := b) (e := e) (p := p) h
  have h1 : hasB b e p w = false := Bool.eq_false_iff.mpr fun q => hk (k1.mp q)
  have := r_has hL h9 (by omega) h.1 (by rw [h.2.2.2.1]; exact (stx_word (k - 1) (by have := h.2.2.1; omega) (by have := h.2.1; omega)).1)
  rw [hp, h1, if_neg (by decide)] at this
  rw [this]
  unfold setA
  rw [wr_same h9]
  rfl
theorem r_has_any {Y : Mem} {b : Nat → Nat} {e a w k : Nat} (hL : LTx Y b e) (h9 : Y 0 9 = nI a) (ha : a ≤ e) (h : WPr w k) : ∃ v a', a' ≤ e ∧ md_has w Y = some (bI v, setA Y a') := by
  have he := hL.2.1
  have := r_has hL h9 (by omega) h.1 (by rw [h.2.2.2.1]; exact (stx_word (k - 1) (by have := h.2.2.1; omega) (by have := h.2.1; omega)).1)
  have hs : skp b e a ≤ e := by
    have := (skp_bd (b := b) (e := e) (a := a)).2
    omega
  refine ⟨_, _, ?_, this⟩
  split
  · exact run_le hs
  · exact hs
theorem skp_id {b : Nat → Nat} {e p : Nat} (h : skp b e p = p) (hp : p < e) : ¬ b p = 32 := by
  have := skp_b (b := b) (e := e) (a := p)
  rw [h] at this
  exact this hp
theorem W19 : WPr 19 4 := by unfold WPr; decide +kernel
theorem W21 : WPr 21 5 := by unfold WPr; decide +kernel
theorem W22 : WPr 22 6 := by unfold WPr; decide +kernel
theorem W23 : WPr 23 7 := by unfold WPr; decide +kernel
theorem W20 : WPr 20 8 := by unfold WPr; decide +kernel
theorem W24 : WPr 24 9 := by unfold WPr; decide +kernel
theorem W25 : WPr 25 10 := by unfold WPr; decide +kernel
theorem W26 : WPr 26 11 := by unfold WPr; decide +kernel
theorem W27 : WPr 27 12 := by unfold WPr; decide +kernel
theorem W28 : WPr 28 13 := by unfold WPr; decide +kernel
theorem W29 : WPr 29 14 := by unfold WPr; decide +kernel
theorem W30 : WPr 30 15 := by unfold WPr; decide +kernel
