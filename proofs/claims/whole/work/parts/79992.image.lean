/-! the image -/
theorem bkc_L {R Q : Nat} (hd : Q + 13 ≤ R ∨ R + 13 ≤ Q) {K : Mem → Option Mem} : ∀ m k fu (M : Mem), k + m = 10 → m < fu → ∃ M', bk_copyFrom_L57 R Q K fu (nI k) M = K M' ∧ (∀ a b, k ≤ a → a < 10 → b < 10 → M' (R + 2 + 1 + a) b = M (Q + 2 + 1 + a) b) ∧ (∀ r i, ¬ (R + 3 + k ≤ r ∧ r < R + 13) → M' r i = M r i)
  | 0, k, 0, M, _, hf => absurd hf (by omega)
  | 0, k, fu + 1, M, hk, _ => by
    refine ⟨M, ?_, fun a b x y => by omega, fun _ _ _ => rfl⟩
    rw [bk_copyFrom_L57, if_neg (by rw [show (10 : Int32) = nI 10 from rfl, n_lt (by omega) (by omega)]; omega)]
  | m + 1, k, 0, M, _, hf => absurd hf (by omega)
  | m + 1, k, fu + 1, M, hk, hf => by
    have cp : ∀ r i, ¬ r = R + 2 + 1 + k → cpy M (Q + 2 + 1 + k) (R + 2 + 1 + k) 10 r i = M r i := fun r i q => if_neg fun q2 => q q2.1
    have cq : ∀ i, i < 10 → cpy M (Q + 2 + 1 + k) (R + 2 + 1 + k) 10 (R + 2 + 1 + k) i = M (Q + 2 + 1 + k) i := fun i q => if_pos ⟨rfl, q⟩
    obtain ⟨M', e1, e2, e3⟩ := bkc_L hd (K := K) m (k + 1) fu (cpy M (Q + 2 + 1 + k) (R + 2 + 1 + k) 10) (by omega) (by omega)
    refine ⟨M', ?_, fun a b x y z => ?_, fun r i q => ?_⟩
    · rw [bk_copyFrom_L57, if_pos (show nI k < 10 by rw [show (10 : Int32) = nI 10 from rfl, n_lt (by omega) (by omega)]; omega), chk_in (by omega) (by omega), chk_in (by omega) (by omega), n_cl (by omega), lt1_ap, show nI k + 1 = nI (k + 1) from n_add _ _, e1]
    · by_cases q : a = k
      · rw [q, e3 _ _ (by omega), cq b z]
      · rw [e2 a b (by omega) y z, cp _ _ (by omega)]
    · rw [e3 r i (by omega), cp _ _ (by omega)]
theorem bk_copy {R Q : Nat} {X : Mem} {c : Nat → Nat} (h : XB Q X c) (hd : Q + 13 ≤ R ∨ R + 13 ≤ Q) : ∃ X', bk_copyFrom R Q X = some X' ∧ XB R X' c ∧ (∀ r i, ¬ (R ≤ r ∧ r < R + 13) → X' r i = X r i) := by
  have cp : ∀ (M : Mem) a b n r i, ¬ r = b → cpy M a b n r i = M r i := fun M a b n r i q => if_neg fun q2 => q q2.1
  have cq : ∀ (M : Mem) a b n i, i < n → cpy M a b n b i = M a i := fun M a b n i q => if_pos ⟨rfl, q⟩
  obtain ⟨g0, g1, g2, g3, g4, g5, g6⟩ := h
  obtain ⟨X', e1, e2, e3⟩ := bkc_L hd (K := fun M11 => some M11) 10 0 FU (cpy (wr (wr (wr (wr (wr X R 0 (X Q 0)) R 1 (X Q 1)) R 2 (X Q 2)) R 3 (X Q 3)) R 4 (X Q 4)) (Q + 1) (R + 1) 10) (by omega) (by rw [FUe]; omega)
  refine ⟨X', ?_, ⟨?_, ?_, ?_, ?_, ?_, fun b hb => ?_, fun a b ha hb => ?_⟩, fun r i q => ?_⟩
  · unfold bk_copyFrom
    rw [lt1_ap, lt1_ap, lt1_ap, lt1_ap, lt1_ap, lt1_ap, wr_ne (by omega), wr_ne (M := wr (wr X R 0 (X Q 0)) R 1 (X Q 1)) (r := R) (r' := Q) (by omega)]
    simp (disch := omega) only [wr_ne]
    exact e1
  · rw [e3 _ _ (by omega), cp _ _ _ _ _ _ (by omega), ← g0]
    simp (disch := omega) only [wr_ne, wr_eq]
  · rw [e3 _ _ (by omega), cp _ _ _ _ _ _ (by omega), ← g1]
    simp (disch := omega) only [wr_ne, wr_eq]
  · rw [e3 _ _ (by omega), cp _ _ _ _ _ _ (by omega), ← g2]
    simp (disch := omega) only [wr_ne, wr_eq]
  · rw [e3 _ _ (by omega), cp _ _ _ _ _ _ (by omega), ← g3]
    simp (disch := omega) only [wr_ne, wr_eq]
  · rw [e3 _ _ (by omega), cp _ _ _ _ _ _ (by omega), ← g4]
    simp (disch := omega) only [wr_ne, wr_eq]
  · rw [e3 _ _ (by omega), cq _ _ _ _ _ hb, ← g5 b hb]
    simp (disch := omega) only [wr_ne]
  · rw [e2 a b (Nat.zero_le _) ha hb, ← g6 a b ha hb, cp _ _ _ _ _ _ (by omega)]
    simp (disch := omega) only [wr_ne]
  · rw [e3 _ _ (by omega), cp _ _ _ _ _ _ (by omega)]
    simp (disch := omega) only [wr_ne]
theorem rim_L {K : Mem → Option Mem} : ∀ m k fu (M : Mem), k + m = 648 → m < fu → ∃ M', md_image_L7 K fu (nI k) M = K M' ∧ (∀ i, k ≤ i → i < 648 → M' 2 i = M 1 i) ∧ (∀ r i, ¬ (r = 2 ∧ k ≤ i) → M' r i = M r i)
  | 0, k, 0, M, _, hf => absurd hf (by omega)
  | 0, k, fu + 1, M, hk, _ => by
    refine ⟨M, ?_, fun i a d => by omega, fun _ _ _ => rfl⟩
    rw [md_image_L7, if_neg (by rw [show (648 : Int32) = nI 648 from rfl, n_lt (by omega) (by omega)]; omega)]
  | m + 1, k, 0, M, _, hf => absurd hf (by omega)
  | m + 1, k, fu + 1, M, hk, hf => by
    obtain ⟨M', e1, e2, e3⟩ := rim_L (K := K) m (k + 1) fu (wr M 2 k (M 1 k)) (by omega) (by omega)
    refine ⟨M', ?_, fun i a d => ?_, fun r i q => ?_⟩
    · rw [md_image_L7, if_pos (show nI k < 648 by rw [show (648 : Int32) = nI 648 from rfl, n_lt (by omega) (by omega)]; omega), chk_in (by omega) (by omega), chk_in (by omega) (by omega), n_cl (by omega), lt1_ap, show nI k + 1 = nI (k + 1) from n_add _ _, e1]
    · by_cases q : i = k
      · rw [q, e3 _ _ (by omega), wr_eq]
      · rw [e2 i (by omega) d, wr_ne (by omega)]
    · rw [e3 r i (by omega), wr_ne (by omega)]
theorem rbk_L {K : Mem → Option (Int32 × Mem)} : ∀ m k fu (M : Mem), k + m = 648 → m < fu → ∃ M', md_back_L16 K fu (nI k) M = K M' ∧ (∀ i, k ≤ i → i < 648 → M' 1 i = M 2 i) ∧ (∀ r i, ¬ (r = 1 ∧ k ≤ i) → M' r i = M r i)
  | 0, k, 0, M, _, hf => absurd hf (by omega)
  | 0, k, fu + 1, M, hk, _ => by
    refine ⟨M, ?_, fun i a d => by omega, fun _ _ _ => rfl⟩
    rw [md_back_L16, if_neg (by rw [show (648 : Int32) = nI 648 from rfl, n_lt (by omega) (by omega)]; omega)]
  | m + 1, k, 0, M, _, hf => absurd hf (by omega)
  | m + 1, k, fu + 1, M, hk, hf => by
    obtain ⟨M', e1, e2, e3⟩ := rbk_L (K := K) m (k + 1) fu (wr M 1 k (M 2 k)) (by omega) (by omega)
    refine ⟨M', ?_, fun i a d => ?_, fun r i q => ?_⟩
    · rw [md_back_L16, if_pos (show nI k < 648 by rw [show (648 : Int32) = nI 648 from rfl, n_lt (by omega) (by omega)]; omega), chk_in (by omega) (by omega), chk_in (by omega) (by omega), n_cl (by omega), lt1_ap, show nI k + 1 = nI (k + 1) from n_add _ _, e1]
    · by_cases q : i = k
      · rw [q, e3 _ _ (by omega), wr_eq]
      · rw [e2 i (by omega) d, wr_ne (by omega)]
    · rw [e3 r i (by omega), wr_ne (by omega)]
theorem m_image {T : Nat} {X Y : Mem} {c : Nat → Nat} (h : SV T X Y c) (hru : RuX 58 X c) : ∃ X' Y', rf_image X = some X' ∧ md_image Y = some Y' ∧ X' 0 15 = 1 ∧ Y' 0 3 = 1 ∧ XRv 22 X' c ∧ XB 44 X' c ∧ RuX 68 X' c ∧ (∀ i, i < 648 → Y' 2 i = cI c i) ∧ (∀ r i, ¬ ((22 ≤ r ∧ r < 30) ∨ (44 ≤ r ∧ r < 57) ∨ (68 ≤ r ∧ r < 72) ∨ (r = 0 ∧ i = 15)) → X' r i = X r i) ∧ (∀ r i, ¬ (r = 2 ∨ (r = 0 ∧ (i = 0 ∨ i = 3))) → Y' r i = Y r i) := by
  obtain ⟨hR, hB, hw, hb, hE, hz⟩ := id h
  obtain ⟨X1, a1, a2, a3⟩ := rv_copy (R := 22) hR hw (by omega) (by omega)
  obtain ⟨X2, b1, b2, b3⟩ := bk_copy (R := 44) (XB_cong hB fun r i x y => a3 r i (by omega)) (by omega)
  obtain ⟨X3, d1, d2, d3, d4, d5⟩ := ru_copy (R := 68) (Q := 58) (X := X2) (by omega)
  obtain ⟨Y1, e1, e2, e3⟩ := rim_L (K := fun M4 => lt1 (wr M4 0 3 (1 : Int32)) fun M5 => some M5) 648 0 FU (wr Y 0 0 0) rfl (by rw [FUe]; omega)
  have k2 : ∀ r i, ¬ ((22 ≤ r ∧ r < 30) ∨ (44 ≤ r ∧ r < 57)) → X2 r i = X r i := fun r i q => by rw [b3 _ _ (by omega), a3 _ _ (by omega)]
  have hru2 : RuX 58 X2 c := RuX_cong hru (k2 _ _ (by omega)) (fun j _ => ⟨k2 _ _ (by omega), k2 _ _ (by omega)⟩) (fun i _ => k2 _ _ (by omega)) (fun _ _ => rfl)
  have hru3 : RuX 68 X3 c := RuX_cong hru2 d2 d3 d4 (fun _ _ => rfl)
  refine ⟨wr X3 0 15 1, wr Y1 0 3 1, ?_, ?_, wr_eq, wr_eq, XR_cong a2 fun r i x y => by rw [wr_ne (by omega), d5 _ _ (by omega), b3 _ _ (by omega)], XB_cong b2 fun r i x y => by rw [wr_ne (by omega), d5 _ _ (by omega)], RuX_cong hru3 (wr_ne (by omega)) (fun j _ => ⟨wr_ne (by omega), wr_ne (by omega)⟩) (fun i _ => wr_ne (by omega)) (fun _ _ => rfl), fun i hi => ?_, fun r i q => by rw [wr_ne (by omega), d5 _ _ (by omega), k2 _ _ (by omega)], fun r i q => by rw [wr_ne (by omega), e3 _ _ (by omega), wr_ne (by omega)]⟩
  · unfold rf_image
    rw [a1, bind_s, b1, bind_s, d1, bind_s, lt1_ap]
  · unfold md_image
    rw [lt1_ap]
    refine Eq.trans e1 ?_
    rw [lt1_ap]
  · rw [wr_ne (by omega), e2 i (Nat.zero_le _) hi, wr_ne (by omega)]
    exact hE i hi
theorem m_back0 {X Y : Mem} (h1 : X 0 15 = 0) (h2 : Y 0 3 = 0) : rf_back X = some (0, X) ∧ md_back Y = some (0, wr Y 0 0 0) := by
  constructor
  · unfold rf_back
    rw [if_pos h1]
  · unfold md_back
    rw [lt1_ap, wr_ne (by omega), if_pos h2]
theorem m_back1 {T : Nat} {X Y : Mem} {c k : Nat → Nat} (h : SV T X Y c) (h1 : X 0 15 = 1) (h2 : Y 0 3 = 1) (kR : XRv 22 X k) (kB : XB 44 X k) (kw : WR k) (kb : WB T k) (kE : ∀ i, i < 648 → Y 2 i = cI k i) (kru : RuX 68 X k) : ∃ X' Y', rf_back X = some (1, X') ∧ md_back Y = some (1, Y') ∧ SV T X' Y' k ∧ RuX 58 X' k ∧ (∀ r i, ¬ ((6 ≤ r ∧ r < 14) ∨ (30 ≤ r ∧ r < 43) ∨ (58 ≤ r ∧ r < 62)) → X' r i = X r i) ∧ (∀ r i, ¬ (r = 1 ∨ (r = 0 ∧ i = 0)) → Y' r i = Y r i) := by
  obtain ⟨hR, hB, hw, hb, hE, hz⟩ := id h
  obtain ⟨X1, a1, a2, a3⟩ := rv_copy (R := 6) kR kw (by omega) (by omega)
  obtain ⟨X2, b1, b2, b3⟩ := bk_copy (R := 30) (XB_cong kB fun r i x y => a3 r i (by omega)) (by omega)
  obtain ⟨X3, d1, d2, d3, d4, d5⟩ := ru_copy (R := 58) (Q := 68) (X := X2) (by omega)
  obtain ⟨Y1, e1, e2, e3⟩ := rbk_L (K := fun M4 => some ((1 : Int32), M4)) 648 0 FU (wr Y 0 0 0) rfl (by rw [FUe]; omega)
  have k2 : ∀ r i, ¬ ((6 ≤ r ∧ r < 14) ∨ (30 ≤ r ∧ r < 43)) → X2 r i = X r i := fun r i q => by rw [b3 _ _ (by omega), a3 _ _ (by omega)]
  have hru2 : RuX 68 X2 k := RuX_cong kru (k2 _ _ (by omega)) (fun j _ => ⟨k2 _ _ (by omega), k2 _ _ (by omega)⟩) (fun i _ => k2 _ _ (by omega)) (fun _ _ => rfl)
  have k3 : ∀ r i, ¬ ((6 ≤ r ∧ r < 14) ∨ (30 ≤ r ∧ r < 43) ∨ (58 ≤ r ∧ r < 62)) → X3 r i = X r i := fun r i q => by rw [d5 _ _ (by omega), k2 _ _ (by omega)]
  refine ⟨X3, Y1, ?_, ?_, ⟨XR_cong a2 fun r i x y => by rw [d5 _ _ (by omega), b3 _ _ (by omega)], XB_cong b2 fun r i x y => d5 _ _ (by omega), kw, kb, fun i hi => by rw [e2 i (Nat.zero_le _) hi, wr_ne (by omega)]; exact kE i hi, ⟨by rw [k3 _ _ (by omega)]; exact hz.1, by rw [k3 _ _ (by omega)]; exact hz.2.1, by rw [k3 _ _ (by omega)]; exact hz.2.2⟩⟩, RuX_cong hru2 d2 d3 d4 (fun _ _ => rfl), k3, fun r i q => by rw [e3 _ _ (by omega), wr_ne (by omega)]⟩
  · unfold rf_back
    rw [h1, if_neg (by decide), a1, bind_s, b1, bind_s, d1, bind_s]
  · unfold md_back
    rw [lt1_ap, wr_ne (by omega), h2, if_neg (by decide)]
    exact e1
