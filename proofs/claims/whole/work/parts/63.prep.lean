/-! the class looks at river and banks: its tables -/
theorem XR_cong {R : Nat} {X X' : Mem} {c : Nat → Nat} (h : XRv R X c) (e : ∀ r i, R ≤ r → r < R + 8 → X' r i = X r i) : XRv R X' c := by
  obtain ⟨h0, h1, h2, h3, ⟨h4, h5, h6⟩, h7, h8, h9, h10, h11⟩ := h
  refine ⟨?_, ?_, fun b hb => ?_, ?_, ⟨?_, ?_, ?_⟩, fun q hq => ?_, ?_, fun k hk => ?_, ?_, fun b hb => ?_⟩
  · rw [e _ _ (by omega) (by omega), h0]
  · rw [e _ _ (by omega) (by omega), h1]
  · rw [e _ _ (by omega) (by omega), e _ _ (by omega) (by omega), e _ _ (by omega) (by omega)]
    exact h2 b hb
  · rw [e _ _ (by omega) (by omega), h3]
  · rw [e _ _ (by omega) (by omega), h4]
  · rw [e _ _ (by omega) (by omega), h5]
  · rw [e _ _ (by omega) (by omega), h6]
  · rw [e _ _ (by omega) (by omega), h7 q hq]
  · rw [e _ _ (by omega) (by omega), h8]
  · rw [e _ _ (by omega) (by omega), e _ _ (by omega) (by omega)]
    exact h9 k hk
  · rw [e _ _ (by omega) (by omega), h10]
  · rw [e _ _ (by omega) (by omega), h11 b hb]
theorem XB_cong {R : Nat} {X X' : Mem} {c : Nat → Nat} (h : XB R X c) (e : ∀ r i, R ≤ r → r < R + 13 → X' r i = X r i) : XB R X' c := by
  obtain ⟨h0, h1, h2, h3, h4, h5, h6⟩ := h
  refine ⟨?_, ?_, ?_, ?_, ?_, fun b hb => ?_, fun a b ha hb => ?_⟩
  · rw [e _ _ (by omega) (by omega), h0]
  · rw [e _ _ (by omega) (by omega), h1]
  · rw [e _ _ (by omega) (by omega), h2]
  · rw [e _ _ (by omega) (by omega), h3]
  · rw [e _ _ (by omega) (by omega), h4]
  · rw [e _ _ (by omega) (by omega), h5 b hb]
  · rw [e _ _ (by omega) (by omega), h6 a b ha hb]
theorem LV_cong {X X' : Mem} {c : Nat → Nat} (h : LV X c) (e : ∀ r i, r < 75 → X' r i = X r i) : LV X' c :=
  ⟨XR_cong h.1 fun r i _ _ => e r i (by omega), XB_cong h.2.1 fun r i _ _ => e r i (by omega), h.2.2⟩
theorem pB_L {b : Nat} (hb : b < 10) {f : Int32} {K : Mem → Option Mem} : ∀ m k fu (M : Mem), k + m = 2 ^ b → m < fu → ∃ M', mv_prepareBeing_L7 (nI b) f (nI (2 ^ b)) K fu (nI k) M = K M' ∧ (∀ s, k ≤ s → s < 2 ^ b → M' 76 (2 ^ b + s) = M 76 s + M 9 b ∧ M' 77 (2 ^ b + s) = M 77 s + f ∧ M' 78 (2 ^ b + s) = M 78 s ||| M 13 b) ∧ (∀ r i, ¬ (76 ≤ r ∧ r ≤ 78 ∧ 2 ^ b + k ≤ i) → M' r i = M r i)
  | 0, k, 0, M, _, hf => absurd hf (by omega)
  | 0, k, fu + 1, M, hk, _ => by
    have hp := pw_le (show b ≤ 9 by omega)
    have hp9 : 2 ^ 9 = 512 := rfl
    refine ⟨M, ?_, fun s h1 h2 => absurd h2 (by omega), fun r i _ => rfl⟩
    rw [mv_prepareBeing_L7]
    simp (disch := omega) only [n_lt, if_neg]
  | m + 1, k, 0, M, _, hf => absurd hf (by omega)
  | m + 1, k, fu + 1, M, hk, hf => by
    have hp := pw_le (show b ≤ 9 by omega)
    have hp9 : 2 ^ 9 = 512 := rfl
    obtain ⟨M', e1, e2, e3⟩ := pB_L hb (f := f) (K := K) m (k + 1) fu (wr (wr (wr M 76 (2 ^ b + k) (M 76 k + M 9 b)) 77 (2 ^ b + k) (M 77 k + f)) 78 (2 ^ b + k) (M 78 k ||| M 13 b)) (by omega) (by omega)
    refine ⟨M', ?_, fun s h1 h2 => ?_, fun r i hr => ?_⟩
    · rw [mv_prepareBeing_L7, ← e1]
      simp (disch := omega) only [n_lit, n_or, or_add, n_lt, if_pos, chk_in, n_cl, n_add, lt1_ap]
      rw [wr_ne (M := M) (r := 76) (r' := 77) (by omega), wr_ne (M := wr M 76 (2 ^ b + k) (M 76 k + M 9 b)) (r := 77) (r' := 78) (by omega), wr_ne (M := M) (r := 76) (r' := 78) (by omega), wr_ne (M := wr M 76 (2 ^ b + k) (M 76 k + M 9 b)) (r := 77) (r' := 13) (by omega), wr_ne (M := M) (r := 76) (r' := 13) (by omega)]
    · rcases Nat.eq_or_lt_of_le h1 with q | q
      · subst q
        rw [e3 _ _ (by omega), e3 _ _ (by omega), e3 _ _ (by omega)]
        refine ⟨?_, ?_, ?_⟩
        · rw [wr_ne (by omega), wr_ne (by omega), wr_eq]
        · rw [wr_ne (by omega), wr_eq]
        · rw [wr_eq]
      · obtain ⟨g1, g2, g3⟩ := e2 s q h2
        rw [g1, g2, g3]
        refine ⟨?_, ?_, ?_⟩
        · rw [wr_ne (by omega), wr_ne (by omega), wr_ne (by omega), wr_ne (by omega), wr_ne (by omega), wr_ne (by omega)]
        · rw [wr_ne (by omega), wr_ne (by omega), wr_ne (by omega)]
        · rw [wr_ne (by omega), wr_ne (by omega), wr_ne (by omega), wr_ne (by omega), wr_ne (by omega), wr_ne (by omega)]
    · rw [e3 r i (by omega), wr_ne (by omega), wr_ne (by omega), wr_ne (by omega)]
def TB (c : Nat → Nat) (M : Mem) (k : Nat) : Prop := ∀ s, s < 2 ^ k → M 76 s = nI (sB (wt c) s k) ∧ M 77 s = nI (sB (fo c) s k) ∧ M 78 s = nI (oB (fun b => co c b (c 13)) s k)
theorem pr_L {c : Nat → Nat} {T : Nat} (hw : WR c) (hb : WB T c) (hT : T ≤ 520) {K : Mem → Option Mem} : ∀ m k fu (M : Mem), k + m = c 1 → m < fu → XRv 6 M c → XB 30 M c → TB c M k → ∃ M', mv_prepare_L32 K fu (nI k) M = K M' ∧ TB c M' (c 1) ∧ (∀ r i, ¬ (76 ≤ r ∧ r ≤ 78 ∧ 0 < i) → M' r i = M r i)
  | 0, k, 0, M, _, hf => absurd hf (by omega)
  | 0, k, fu + 1, M, hk, _ => by
    intro hR hB hTb
    have h10 := WR_n hw
    refine ⟨M, ?_, ?_, fun r i _ => rfl⟩
    · rw [mv_prepare_L32, hR.2.1]
      simp (disch := omega) only [n_lt, if_neg]
    · rw [show c 1 = k by omega]
      exact hTb
  | m + 1, k, 0, M, _, hf => absurd hf (by omega)
  | m + 1, k, fu + 1, M, hk, hf => by
    intro hR hB hTb
    have h10 := WR_n hw
    have hp := pw_le (show k ≤ 9 by omega)
    have hp9 : 2 ^ 9 = 512 := rfl
    have hpp := pw_pos k
    obtain ⟨M1, e1, e2, e3⟩ := pB_L (b := k) (by omega) (f := nI (fo c k)) (K := fun M5 => some M5) (2 ^ k) 0 FU M (by omega) (by rw [FUe]; omega)
    have hR1 : XRv 6 M1 c := XR_cong hR fun r i _ _ => e3 r i (by omega)
    have hB1 : XB 30 M1 c := XB_cong hB fun r i _ _ => e3 r i (by omega)
    have hT1 : TB c M1 (k + 1) := by
      intro s hs
      rcases Nat.lt_or_ge s (2 ^ k) with q | q
      · rw [e3 _ _ (by omega), e3 _ _ (by omega), e3 _ _ (by omega), sum_low q, sum_low q, uni_low q]
        exact hTb s q
      · obtain ⟨d, rfl⟩ := Nat.exists_eq_add_of_le q
        have hd : d < 2 ^ k := by
          have : 2 ^ (k + 1) = 2 ^ k + 2 ^ k := by rw [Nat.pow_succ]; omega
          omega
        obtain ⟨g1, g2, g3⟩ := e2 d (by omega) hd
        obtain ⟨t1, t2, t3⟩ := hTb d hd
        have k1 : M 9 k = nI (wt c k) := (hR.2.2.1 k (by omega)).2.2
        have k2 : M 13 k = nI (co c k (c 13)) := hR.2.2.2.2.2.2.2.2.2 k (by omega)
        rw [g1, g2, g3, t1, t2, t3, k1, k2, n_add, n_add, n_or, sum_add hd, sum_add hd, uni_add hd]
        exact ⟨rfl, rfl, rfl⟩
    obtain ⟨M', f1, f2, f3⟩ := pr_L hw hb hT (K := K) m (k + 1) fu M1 (by omega) (by omega) hR1 hB1 hT1
    refine ⟨M', ?_, f2, fun r i hr => ?_⟩
    · rw [mv_prepare_L32, hR.2.1, k_force hR hB hw hb hT (by omega), ← f1]
      unfold mv_prepareBeing
      simp (disch := omega) only [n_lit, n_lt, if_pos, Option.bind_some, n_m31, n_shl1, n_add]
      rw [show nI 0 = nI 0 from rfl, e1]
      rfl
    · rw [f3 r i hr, e3 r i (by omega)]
theorem pe_L {c : Nat → Nat} (hw : WR c) {K : Mem → Option Mem} : ∀ m k fu (M : Mem), k + m = al c + 1 → m < fu → XRv 6 M c → M 75 2 = nI (al c) → ∃ M', mv_prepare_L68 K fu (nI k) M = K M' ∧ (∀ s, k ≤ s → s ≤ al c → M' 79 s = bI (may c s)) ∧ (∀ r i, ¬ (r = 79 ∧ k ≤ i) → M' r i = M r i)
  | 0, k, 0, M, _, hf => absurd hf (by omega)
  | 0, k, fu + 1, M, hk, _ => by
    intro hR hA
    have h10 := (WR_al hw).1
    refine ⟨M, ?_, fun s h1 h2 => absurd h2 (by omega), fun r i _ => rfl⟩
    rw [mv_prepare_L68, hA]
    simp (disch := omega) only [n_lt, if_pos]
  | m + 1, k, 0, M, _, hf => absurd hf (by omega)
  | m + 1, k, fu + 1, M, hk, hf => by
    intro hR hA
    have h10 := (WR_al hw).1
    obtain ⟨M', e1, e2, e3⟩ := pe_L hw (K := K) m (k + 1) fu (wr M 79 k (bI (may c k))) (by omega) (by omega) (XR_cong hR fun r i _ _ => wr_ne (by omega)) ((wr_ne (by omega)).trans hA)
    refine ⟨M', ?_, fun s h1 h2 => ?_, fun r i hr => ?_⟩
    · rw [mv_prepare_L68, hA, k_may hR hw (by omega), ← e1]
      simp (disch := omega) only [n_lit, n_lt, if_neg, if_pos, Option.bind_some, chk_bI, chk_in, n_cl, n_add, lt1_ap]
    · rcases Nat.eq_or_lt_of_le h1 with q | q
      · subst q
        rw [e3 _ _ (by omega), wr_eq]
      · exact e2 s q h2
    · rw [e3 r i (by omega), wr_ne (by omega)]
def Z0 (X : Mem) : Prop := X 76 0 = nI 0 ∧ X 77 0 = nI 0 ∧ X 78 0 = nI 0
theorem k_prepare {X : Mem} {c : Nat → Nat} (h : LV X c) (hz : Z0 X) : ∃ X', mv_prepare X = some X' ∧ MV X' c ∧ LV X' c ∧ Z0 X' ∧ (∀ r i, ¬ (75 ≤ r ∧ r ≤ 79) → X' r i = X r i) := by
  obtain ⟨hR, hB, hw, T, hT, hb⟩ := id h
  have h10 := (WR_al hw).1
  have hn := WR_n hw
  have ha := (WR_al hw).2.2
  have hh : hr c < 24 := Nat.mod_lt _ (by decide)
  have hs : X 10 (hr c) = nI (sr c) := hR.2.2.2.2.2.1 _ hh
  have hR2 : XRv 6 (wr (wr X 75 2 (nI (al c))) 75 3 (nI (sr c))) c := XR_cong hR fun r i _ _ => by rw [wr_ne (by omega), wr_ne (by omega)]
  have hB2 : XB 30 (wr (wr X 75 2 (nI (al c))) 75 3 (nI (sr c))) c := XB_cong hB fun r i _ _ => by rw [wr_ne (by omega), wr_ne (by omega)]
  obtain ⟨M8, e1, e2, e3⟩ := pr_L hw hb hT (K := fun M8 => mv_prepare_L68 (fun M12 => some M12) FU (nI 0) M8) (c 1) 0 FU (wr (wr X 75 2 (nI (al c))) 75 3 (nI (sr c))) (by omega) (by rw [FUe]; omega) hR2 hB2 (by
    intro s hs
    have : s = 0 := by omega
    subst this
    rw [wr_ne (by omega), wr_ne (by omega), wr_ne (by omega), wr_ne (by omega), wr_ne (by omega), wr_ne (by omega)]
    exact hz)
  obtain ⟨M9, f1, f2, f3⟩ := pe_L hw (K := fun M12 => some M12) (al c + 1) 0 FU M8 (by omega) (by rw [FUe]; omega) (XR_cong hR2 fun r i _ _ => e3 r i (by omega)) (by rw [e3 _ _ (by omega), wr_ne (by omega), wr_eq])
  have fr : ∀ r i, ¬ (75 ≤ r ∧ r ≤ 79) → M9 r i = X r i := fun r i hr => by
    rw [f3 r i (by omega), e3 r i (by omega), wr_ne (by omega), wr_ne (by omega)]
  refine ⟨M9, ?_, ⟨XR_cong hR fun r i _ _ => fr r i (by omega), ⟨?_, ?_, fun s hs => ?_⟩, hw⟩, LV_cong h fun r i hr => fr r i (by omega), ⟨?_, ?_, ?_⟩, fr⟩
  · unfold mv_prepare
    have e4 : bk_hour 30 (wr X 75 2 (nI (al c))) = some (nI (hr c)) := k_hour (XB_cong hB fun r i _ _ => wr_ne (by omega)) hb hT
    rw [k_everyone hR.2.1 hw]
    simp only [Option.bind_some, lt1_ap]
    rw [e4]
    simp (disch := omega) only [Option.bind_some, chk_in, n_cl]
    rw [wr_ne (by omega), hs, n_lit 0, e1, f1]
  · rw [f3 _ _ (by omega), e3 _ _ (by omega), wr_ne (by omega), wr_eq]
  · rw [f3 _ _ (by omega), e3 _ _ (by omega), wr_eq]
  · obtain ⟨g1, g2, g3⟩ := e2 s hs
    rw [f3 _ _ (by omega), f3 _ _ (by omega), f3 _ _ (by omega), g1, g2, g3, f2 s (by omega) (by omega)]
    exact ⟨rfl, rfl, rfl, rfl⟩
  · rw [f3 _ _ (by omega), e3 _ _ (by omega), wr_ne (by omega), wr_ne (by omega)]
    exact hz.1
  · rw [f3 _ _ (by omega), e3 _ _ (by omega), wr_ne (by omega), wr_ne (by omega)]
    exact hz.2.1
  · rw [f3 _ _ (by omega), e3 _ _ (by omega), wr_ne (by omega), wr_ne (by omega)]
    exact hz.2.2
theorem sB_al {c : Nat → Nat} {f : Nat → Nat} {P : Nat} : sB f (P &&& al c) (c 1) = sB f P (c 1) := sB_cong fun k hk => by
  rw [Nat.testBit_and, al_b, decide_eq_true hk, Bool.and_true]
theorem m_need {X Y : Mem} {c : Nat → Nat} (h : LV X c) (hz : Z0 X) (hY : EY Y c) (p : Int32) : ∃ v X', rf_need p X = some (v, X') ∧ md_need p Y = some (v, wr Y 0 0 0) ∧ LV X' c ∧ Z0 X' ∧ (∀ r i, ¬ (75 ≤ r ∧ r ≤ 79) → X' r i = X r i) := by
  obtain ⟨X', e1, e2, e3, e4, e5⟩ := k_prepare h hz
  obtain ⟨hR, hM, hw⟩ := id e2
  obtain ⟨-, -, -, T, hT, hb⟩ := id h
  obtain ⟨P, hP, rfl⟩ := n_of p
  have h10 := pw_10 (WR_n hw)
  have l1 : P &&& al c < 2 ^ c 1 := and_lt P (WR_al hw).2.1
  have w1 := wsum_le hw P
  have w4 : c 6 ≤ 99 := hw.2.2.2.1
  refine ⟨nI (nee c (c 6 + sB (wt c) P (c 1))), X', ?_, ?_, e3, e4, e5⟩
  · unfold rf_need
    rw [e1]
    simp only [Option.bind_some]
    rw [hM.1]
    simp (disch := omega) only [n_and, chk_in, n_cl]
    rw [(hM.2.2 _ l1).1, sB_al, k_need e2 (by omega)]
    rfl
  · have hY1 : EY (wr Y 0 0 0) c := fun i hi => (wr_ne (by omega)).trans (hY i hi)
    unfold md_need
    simp only [lt1_ap]
    rw [r_weight hY1 hw]
    simp only [Option.bind_some]
    rw [r_need hY1 hw hb hT (by omega)]
    rfl
theorem m_may {X Y : Mem} {c : Nat → Nat} (h : LV X c) (hY : EY Y c) (p : Int32) : ∃ v, rf_may p X = some v ∧ md_may p Y = some (v, wr Y 0 0 0) := by
  obtain ⟨hR, hB, hw, T, hT, hb⟩ := id h
  obtain ⟨P, hP, rfl⟩ := n_of p
  have hY1 : EY (wr Y 0 0 0) c := fun i hi => (wr_ne (by omega)).trans (hY i hi)
  have l1 : P &&& al c < 2 ^ 32 := by
    have h1 := and_lt P (WR_al hw).2.1
    have h10 := pw_10 (WR_n hw)
    omega
  refine ⟨bI (may c (P &&& al c)), ?_, ?_⟩
  · unfold rf_may
    rw [k_everyone hR.2.1 hw]
    simp only [Option.bind_some, n_and]
    rw [k_may hR hw l1]
    simp only [Option.bind_some, chk_bI]
  · unfold md_may
    simp only [lt1_ap]
    rw [r_all hY1 hw]
    simp only [Option.bind_some, n_and]
    rw [r_may hY1 hw]
    simp only [Option.bind_some, chk_bI]
