/-! a river is read: the call -/
theorem rv_copy {R Q : Nat} {X : Mem} {c : Nat → Nat} (h : XRv Q X c) (hw : WR c) (hd : Q + 14 ≤ R + 7 ∨ R + 14 ≤ Q + 7) (hd2 : Q + 8 ≤ R ∨ R + 8 ≤ Q) : ∃ X', rv_copyFrom R Q X = some X' ∧ XRv R X' c ∧ (∀ r i, ¬ (R ≤ r ∧ r < R + 8) → X' r i = X r i) := by
  have h13 : c 13 ≤ 12 := hw.2.2.2.2.2.2.1
  have h12 : c 12 ≤ 12 := hw.2.2.2.2.2.1
  have h10 := WR_n hw
  have cp : ∀ (M : Mem) a b n r i, ¬ r = b → cpy M a b n r i = M r i := fun M a b n r i q => if_neg fun q2 => q q2.1
  have cq : ∀ (M : Mem) a b n i, i < n → cpy M a b n b i = M a i := fun M a b n i q => if_pos ⟨rfl, q⟩
  refine ⟨_, rfl, ?_, fun r i q => ?_⟩
  · obtain ⟨g0, g1, g2, g3, ⟨g4, g5, g6⟩, g7, g8, g9, g10, g11⟩ := h
    refine ⟨?_, ?_, fun b hb => ?_, ?_, ⟨?_, ?_, ?_⟩, fun q hq => ?_, ?_, fun k hk => ?_, ?_, fun b hb => ?_⟩
    · simp (disch := omega) only [lt1_ap, cp, wr_ne, wr_eq]
      exact g0
    · simp (disch := omega) only [lt1_ap, cp, wr_ne, wr_eq]
      exact g1
    · simp (disch := omega) only [lt1_ap, cp, cq, wr_ne, wr_eq]
      exact g2 b hb
    · simp (disch := omega) only [lt1_ap, cp, wr_ne, wr_eq]
      exact g3
    · simp (disch := omega) only [lt1_ap, cp, wr_ne, wr_eq]
      exact g4
    · simp (disch := omega) only [lt1_ap, cp, wr_ne, wr_eq]
      exact g5
    · simp (disch := omega) only [lt1_ap, cp, wr_ne, wr_eq]
      exact g6
    · simp (disch := omega) only [lt1_ap, cp, cq, wr_ne, wr_eq]
      exact g7 q hq
    · simp (disch := omega) only [lt1_ap, cp, wr_ne, wr_eq]
      exact g8
    · simp (disch := omega) only [lt1_ap, cp, cq, wr_ne, wr_eq]
      exact g9 k hk
    · simp (disch := omega) only [lt1_ap, cp, wr_ne, wr_eq]
      exact g10
    · simp (disch := omega) only [lt1_ap, cp, cq, wr_ne, wr_eq]
      exact g11 b hb
  · simp (disch := omega) only [lt1_ap, cp, wr_ne]
theorem rr2_L {K : Mem → Option (Int32 × Mem)} : ∀ m k fu (M : Mem), k + m = 248 → m < fu → ∃ M', md_river_L2 K fu (nI k) M = K M' ∧ (∀ i, k ≤ i → i < 248 → M' 3 i = M 1 i) ∧ (∀ r i, ¬ (r = 3 ∧ k ≤ i ∧ i < 248) → M' r i = M r i)
  | 0, k, 0, M, _, hf => absurd hf (by omega)
  | 0, k, fu + 1, M, hk, _ => by
    refine ⟨M, ?_, fun i a d => by omega, fun r i _ => rfl⟩
    rw [md_river_L2]
    simp (disch := omega) only [n_lit, n_lt, if_neg]
  | m + 1, k, 0, M, _, hf => absurd hf (by omega)
  | m + 1, k, fu + 1, M, hk, hf => by
    obtain ⟨M', e1, e2, e3⟩ := rr2_L (K := K) m (k + 1) fu (wr M 3 k (M 1 k)) (by omega) (by omega)
    refine ⟨M', ?_, fun i a d => ?_, fun r i q => by rw [e3 r i (by omega), wr_ne (by omega)]⟩
    · rw [md_river_L2]
      simp (disch := omega) only [n_lit, n_lt, if_pos, chk_in, n_cl, lt1_ap, n_add]
      exact e1
    · by_cases q : i = k
      · rw [q, e3 _ _ (by omega), wr_eq]
      · rw [e2 i (by omega) d, wr_ne (by omega)]
theorem rr78_L {K : Mem → Option (Int32 × Mem)} : ∀ m k fu (M : Mem), k + m = 248 → m < fu → ∃ M', md_river_L78 K fu (nI k) M = K M' ∧ (∀ i, k ≤ i → i < 248 → M' 1 i = M 3 i) ∧ (∀ r i, ¬ (r = 1 ∧ k ≤ i ∧ i < 248) → M' r i = M r i)
  | 0, k, 0, M, _, hf => absurd hf (by omega)
  | 0, k, fu + 1, M, hk, _ => by
    refine ⟨M, ?_, fun i a d => by omega, fun r i _ => rfl⟩
    rw [md_river_L78]
    simp (disch := omega) only [n_lit, n_lt, if_neg]
  | m + 1, k, 0, M, _, hf => absurd hf (by omega)
  | m + 1, k, fu + 1, M, hk, hf => by
    obtain ⟨M', e1, e2, e3⟩ := rr78_L (K := K) m (k + 1) fu (wr M 1 k (M 3 k)) (by omega) (by omega)
    refine ⟨M', ?_, fun i a d => ?_, fun r i q => by rw [e3 r i (by omega), wr_ne (by omega)]⟩
    · rw [md_river_L78]
      simp (disch := omega) only [n_lit, n_lt, if_pos, chk_in, n_cl, lt1_ap, n_add]
      exact e1
    · by_cases q : i = k
      · rw [q, e3 _ _ (by omega), wr_eq]
      · rw [e2 i (by omega) d, wr_ne (by omega)]
