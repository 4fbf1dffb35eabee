/-! a river is read: m_river -/
theorem KP_td {T : Nat} {c c' : Nat → Nat} (hk : KP c c') (hb : WB T c) {b : Nat} (h : b < 10) : td c' b = td c b := by
  rcases hk.2.2.2 b h with a | ⟨a, d⟩
  · exact a
  · rw [d, (hb.2.2.2.2.2.1 b h).2 a]
theorem XB_kp {R T : Nat} {X : Mem} {c c' : Nat → Nat} (h : XB R X c) (hk : KP c c') (hb : WB T c) : XB R X c' := by
  obtain ⟨g0, g1, g2, g3, g4, g5, g6⟩ := h
  refine ⟨?_, ?_, ?_, ?_, ?_, fun b hb2 => ?_, fun a b ha hb2 => ?_⟩
  · rw [hk.2.2.1 _ (by omega), g0]
  · rw [hk.2.2.1 _ (by omega), g1]
  · rw [hk.2.2.1 _ (by omega), g2]
  · rw [hk.2.2.1 _ (by omega), g3]
  · rw [hk.2.2.1 _ (by omega), g4]
  · rw [KP_td hk hb hb2, g5 b hb2]
  · have : pu c' a b = pu c a b := hk.2.2.1 _ (by omega)
    rw [this, g6 a b ha hb2]
theorem WB_kp {T : Nat} {c c' : Nat → Nat} (hk : KP c c') (hb : WB T c) : WB T c' := by
  obtain ⟨g0, g1, g2, g3, g4, g5, g6⟩ := id hb
  have h1 := hk.1
  refine ⟨by rw [hk.2.2.1 2 (by omega)]; exact g0, by rw [hk.2.2.1 3 (by omega)]; exact g1, ?_, by rw [hk.2.2.1 10 (by omega)]; exact g3, by rw [hk.2.2.1 11 (by omega)]; exact g4, fun b hb2 => ?_, fun a b ha hb2 => ?_⟩
  · rw [hk.2.2.1 4 (by omega)]
    exact Nat.lt_of_lt_of_le g2 (Nat.pow_le_pow_right (by decide) h1)
  · rw [KP_td hk hb hb2]
    exact ⟨(g5 b hb2).1, fun q => (g5 b hb2).2 (by omega)⟩
  · have : pu c' a b = pu c a b := hk.2.2.1 _ (by omega)
    rw [this]
    exact ⟨(g6 a b ha hb2).1, fun q => (g6 a b ha hb2).2 (by omega)⟩
theorem XR_0 {R v : Nat} {X : Mem} {c : Nat → Nat} (h : XRv R X c) (hw : WR c) : XRv R (wr X R 0 (nI v)) (up c 0 v) := by
  have h13 : c 13 ≤ 12 := hw.2.2.2.2.2.2.1
  have u : ∀ i, ¬ i = 0 → up c 0 v i = c i := fun i hi => up_ne hi
  obtain ⟨g0, g1, g2, g3, ⟨g4, g5, g6⟩, g7, g8, g9, g10, g11⟩ := h
  refine ⟨by rw [wr_eq, up_eq], ?_, fun b hb => ?_, ?_, ⟨?_, ?_, ?_⟩, fun q hq => ?_, ?_, fun k hk => ?_, ?_, fun b hb => ?_⟩
  · rw [wr_ne (by omega), u _ (by omega), g1]
  · rw [u _ (by omega)] at hb
    unfold kd st wt
    rw [wr_ne (by omega), wr_ne (by omega), wr_ne (by omega), u _ (by omega), u _ (by omega), u _ (by omega)]
    exact g2 b hb
  · rw [wr_ne (by omega), g3, u 1 (by omega)]
    congr 1
  · rw [wr_ne (by omega), u _ (by omega), g4]
  · rw [wr_ne (by omega), u _ (by omega), g5]
  · rw [wr_ne (by omega), u _ (by omega), g6]
  · rw [wr_ne (by omega), u _ (by omega), g7 q hq]
  · rw [wr_ne (by omega), u _ (by omega), g8]
  · rw [u 12 (by omega)] at hk
    rw [wr_ne (by omega), wr_ne (by omega), u _ (by omega), u _ (by omega), u _ (by omega)]
    exact g9 k hk
  · rw [wr_ne (by omega), u _ (by omega), g10]
  · rw [wr_ne (by omega), g11 b hb, u 13 (by omega), co_c2 fun i a d => u i (by omega)]
theorem WR_0 {v : Nat} {c : Nat → Nat} (hw : WR c) (hv : v ≤ 10) : WR (up c 0 v) := by
  obtain ⟨g0, g1, g2, g3, g4, g5, g6, g7, g8, g9, g10⟩ := hw
  exact ⟨hv, g1, g2, g3, g4, g5, g6, fun h hh => by rw [up_ne (by omega)]; exact g7 h hh, fun b hb => by
    have e : ∀ i, up c 0 v (38 + 5 * b + i) = c (38 + 5 * b + i) := fun i => up_ne (by omega)
    unfold kd st wt sm
    rw [e, e, e, e]
    exact g8 b hb, fun k hk => by
    rw [up_ne (i := 88 + 3 * k) (by omega), up_ne (i := 88 + 3 * k + 1) (by omega), up_ne (i := 88 + 3 * k + 2) (by omega)]
    exact g9 k hk, fun k hk => by
    rw [up_ne (i := 124 + 2 * k) (by omega), up_ne (i := 124 + 2 * k + 1) (by omega)]
    exact g10 k hk⟩
theorem KP_0 {T v : Nat} {X : Mem} {c : Nat → Nat} (h : XB 30 X c) (hb : WB T c) : XB 30 X (up c 0 v) ∧ WB T (up c 0 v) := by
  obtain ⟨g0, g1, g2, g3, g4, g5, g6⟩ := h
  obtain ⟨f0, f1, f2, f3, f4, f5, f6⟩ := hb
  have et : ∀ b, td (up c 0 v) b = td c b := fun b => up_ne (by omega)
  have ep : ∀ a b, pu (up c 0 v) a b = pu c a b := fun a b => up_ne (by omega)
  exact ⟨⟨g0, g1, g2, g3, g4, fun b hb => by rw [et, g5 b hb], fun a b ha hb => by rw [ep, g6 a b ha hb]⟩, f0, f1, f2, f3, f4, fun b hb => by rw [et]; exact f5 b hb, fun a b ha hb => by rw [ep]; exact f6 a b ha hb⟩
theorem m_river {T n : Nat} {X Y : Mem} {c b : Nat → Nat} (h : SV T X Y c) (ht : TPE X Y n b) : ∃ e v X' u Y' c', rf_river X = some (e, v, X') ∧ md_river Y = some (u, Y') ∧ ((e = 0 ∧ Y' 0 0 = 0 ∧ v = u) ∨ (e = 1 ∧ Y' 0 0 = 1) ∨ (e = 2 ∧ Y' 0 0 = 2)) ∧ SV T X' Y' c' ∧ X' 1 1 = nI 0 ∧ Y' 0 6 = nI 0 ∧ X' 0 16 = Y' 0 10 ∧ (∀ r i, 22 ≤ r ∨ (r = 0 ∧ ¬ i = 16) → X' r i = X r i) ∧ (∀ r i, r = 2 ∨ (r = 0 ∧ i = 3) → Y' r i = Y r i) ∧ RuC c c' := by
  obtain ⟨hR, hB, hw, hb, hE, hz⟩ := id h
  obtain ⟨hn, t1, t2, t3⟩ := ht
  obtain ⟨X1, x1, x2, x3⟩ := rv_copy (R := 14) hR hw (by omega) (by omega)
  have hT : TX X1 n b := ⟨by rw [x3 _ _ (by omega), t1], hn, fun i hi => ⟨by rw [x3 _ _ (by omega), (t3 i hi).1], (t3 i hi).2.2⟩⟩
  obtain ⟨X2, x4, x5, x6⟩ := k_split hT
  obtain ⟨Y3, y1, y2, y3⟩ := rr2_L (K := fun M3 => (md_begins M3).bind fun M4 => bnd2 (md_read ((0 : Int32)) M4) fun v6 M5 => (if (M5 0 10) = (-1 : Int32) then (if (M5 1 0) = (10 : Int32) then md_river_J66 ((2 : Int32)) M5 else md_river_J66 ((0 : Int32)) M5) else md_river_J66 ((1 : Int32)) M5)) 248 0 FU Y rfl (by rw [FUe]; omega)
  obtain ⟨Y4, y4, y5, y6, y7, y8, y9⟩ : ∃ Y4, md_begins Y3 = some Y4 ∧ Y4 0 10 = -1 ∧ Y4 0 7 = -1 ∧ Y4 0 8 = nI n ∧ (Y4 0 6 = nI 0 ∧ Y4 0 9 = nI 0) ∧ (∀ r i, ¬ (r = 0 ∧ 6 ≤ i ∧ i ≤ 11) → Y4 r i = Y3 r i) := by
    refine ⟨_, rfl, ?_, ?_, ?_, ⟨?_, ?_⟩, fun r i q => ?_⟩
    · simp (disch := omega) only [lt1_ap, wr_ne, wr_eq]
    · simp (disch := omega) only [lt1_ap, wr_ne, wr_eq]
    · simp (disch := omega) only [lt1_ap, wr_ne, wr_eq]
      rw [y3 _ _ (by omega), t2]
    · simp (disch := omega) only [lt1_ap, wr_ne, wr_eq, n_lit]
    · simp (disch := omega) only [lt1_ap, wr_ne, wr_eq, n_lit]
    · simp (disch := omega) only [lt1_ap, wr_ne]
  have g : GS X2 Y4 b n c 0 (skp b n 0) := by
    refine ⟨x5, XR_cong x2 fun r i a d => x6 r i (by omega) (by omega), ⟨y7, hn, fun k hk => (t3 k hk).2.2, Or.inl ⟨y6, fun k hk => ?_⟩⟩, EY_fr hE fun i => by rw [y9 _ _ (by omega), y3 _ _ (by omega)], y5, y8.2, Nat.zero_le _, rfl, hw⟩
    rw [y9 _ _ (by omega), y3 _ _ (by omega), (t3 k hk).2.1]
  have hX2 : ∀ r i, 22 ≤ r ∨ (6 ≤ r ∧ r < 14) ∨ r = 0 → X2 r i = X r i := fun r i q => by rw [x6 r i (by omega) (by omega), x3 r i (by omega)]
  have ref : md_river Y = bnd2 (md_read ((0 : Int32)) Y4) fun v6 M5 => (if (M5 0 10) = (-1 : Int32) then (if (M5 1 0) = (10 : Int32) then md_river_J66 ((2 : Int32)) M5 else md_river_J66 ((0 : Int32)) M5) else md_river_J66 ((1 : Int32)) M5) := by
    unfold md_river
    refine Eq.trans y1 ?_
    rw [y4, bind_s]
  have back : ∀ {Y5 : Mem} (s : Nat), 0 < s → s < 10 → FrY Y4 Y5 → ∃ Y', md_river_J66 (nI s) Y5 = some (0, Y') ∧ Y' 0 0 = nI s ∧ EY Y' c ∧ Y' 0 6 = nI 0 ∧ Y' 0 10 = Y5 0 10 ∧ (∀ r i, r = 2 ∨ (r = 0 ∧ i = 3) → Y' r i = Y r i) := fun {Y5} s s0 s1 f => by
    obtain ⟨Y', z1, z2, z3⟩ := rr78_L (K := fun M11 => some ((0 : Int32), M11)) 248 0 FU (wr Y5 0 0 (nI s)) rfl (by rw [FUe]; omega)
    refine ⟨Y', ?_, by rw [z3 _ _ (by omega), wr_eq], ?_, ?_, by rw [z3 _ _ (by omega), wr_ne (by omega)], fun r i q => ?_⟩
    · unfold md_river_J66
      rw [lt1_ap, wr_eq, if_pos (by rw [show (0 : Int32) = nI 0 from rfl, n_lt (by omega) (by omega)]; omega)]
      exact z1
    · refine EY_fr hE fun i => ?_
      by_cases q : i < 248
      · rw [z2 i (Nat.zero_le _) q, wr_ne (by omega), f _ _ (by omega) (by omega), y9 _ _ (by omega), y2 i (Nat.zero_le _) q]
      · rw [z3 _ _ (by omega), wr_ne (by omega), f _ _ (by omega) (by omega), y9 _ _ (by omega), y3 _ _ (by omega)]
    · rw [z3 _ _ (by omega), wr_ne (by omega), f _ _ (by omega) (by omega), y8.1]
    · rw [z3 _ _ (by omega), wr_ne (by omega), f _ _ (by omega) (by omega), y9 _ _ (by omega), y3 _ _ (by omega)]
  have keep : ∀ {X3 : Mem} (v : Int32), FrX X2 X3 → XRv 6 (wr (wr X3 0 16 v) 1 1 0) c ∧ XB 30 (wr (wr X3 0 16 v) 1 1 0) c ∧ Z0 (wr (wr X3 0 16 v) 1 1 0) ∧ (∀ r i, 22 ≤ r ∨ (r = 0 ∧ ¬ i = 16) → (wr (wr X3 0 16 v) 1 1 0) r i = X r i) := fun {X3} v f => by
    have k : ∀ r i, 22 ≤ r ∨ (6 ≤ r ∧ r < 14) → (wr (wr X3 0 16 v) 1 1 0) r i = X r i := fun r i q => by rw [wr_ne (by omega), wr_ne (by omega), f r i (by omega) (by omega), hX2 r i (by omega)]
    refine ⟨XR_cong hR fun r i a d => k r i (by omega), XB_cong hB fun r i a d => k r i (by omega), ⟨by rw [k _ _ (by omega)]; exact hz.1, by rw [k _ _ (by omega)]; exact hz.2.1, by rw [k _ _ (by omega)]; exact hz.2.2⟩, fun r i q => ?_⟩
    rw [wr_ne (by omega), wr_ne (by omega), f r i (by omega) (by omega), hX2 r i (by omega)]
  unfold rf_river
  rw [x1, bind_s, x4, bind_s, ref]
  rcases read_sim g with ⟨X3, Y5, c', v, r1, r2, r3, r4, r5, r6, r7, r8, r9⟩ | ⟨X3, Y5, q, v, r1, r2, r3, r4, r5, r6⟩
  · obtain ⟨k1, k2, k3, k4⟩ := keep (-1) r8
    have hc0 : c' 0 = c 0 := r7.2.1
    have h0 : c 0 ≤ 10 := hw.1
    have e0 : Y5 1 0 = nI (c 0) := by rw [EY_n r4 (by omega) (by omega), hc0]
    rw [r1, r2, bnd_s, bnd_s, r6, if_pos rfl, e0]
    unfold rf_endReading
    rw [if_neg (show ¬ (1 : Int32) = 0 by decide), lt1_ap, lt1_ap, bind_s, if_neg (show ¬ (1 : Int32) = 0 by decide), k1.1]
    by_cases q : c 0 < 10
    · obtain ⟨X6, w1, w2, w3⟩ := rv_copy (R := 6) (Q := 14) (X := wr (wr X3 0 16 (-1)) 1 1 0) (XR_cong r3 fun r i a d => by rw [wr_ne (by omega), wr_ne (by omega)]) r5 (by omega) (by omega)
      rw [if_pos (show nI (c 0) < 10 by rw [show (10 : Int32) = nI 10 from rfl, n_lt (by omega) (by omega)]; exact q), w1, bind_s, lt1_ap, w2.1, hc0, if_neg (show ¬ nI (c 0) = 10 by rw [show (10 : Int32) = nI 10 from rfl, n_eq (by omega) (by omega)]; omega), show nI (c 0) + 1 = nI (c 0 + 1) from n_add _ _]
      have ej : md_river_J66 0 Y5 = some (nI (c 0 + 1), wr (wr Y5 0 0 0) 1 0 (nI (c 0 + 1))) := by
        unfold md_river_J66
        rw [lt1_ap, wr_eq, if_neg (by decide), lt1_ap, wr_eq, wr_ne (by omega), e0, show nI (c 0) + 1 = nI (c 0 + 1) from n_add _ _]
      rw [ej]
      have hB6 : XB 30 X6 c := XB_cong k2 fun r i a d => w3 r i (by omega)
      have uB : ∀ i, ¬ i = 0 → up c' 0 (c 0 + 1) i = c' i := fun i hi => up_ne hi
      refine ⟨0, nI (c 0 + 1), _, nI (c 0 + 1), _, up c' 0 (c 0 + 1), by rw [wr_eq], rfl, Or.inl ⟨rfl, by rw [wr_ne (by omega), wr_eq], rfl⟩, ?_, ?_, ?_, ?_, fun r i q => ?_, fun r i q => ?_, fun i q => ?_⟩
      · obtain ⟨p1, p2⟩ := KP_0 (v := c 0 + 1) (XB_kp hB6 r7 hb) (WB_kp r7 hb)
        refine ⟨XR_0 w2 r5, XB_cong p1 fun r i a d => wr_ne (by omega), WR_0 r5 (by omega), p2, EY_up _ (EY_fr r4 fun i => wr_ne (by omega)) (by omega) (by omega), ?_, ?_, ?_⟩
        · rw [wr_ne (by omega), w3 _ _ (by omega)]; exact k3.1
        · rw [wr_ne (by omega), w3 _ _ (by omega)]; exact k3.2.1
        · rw [wr_ne (by omega), w3 _ _ (by omega)]; exact k3.2.2
      · rw [wr_ne (by omega), w3 _ _ (by omega), wr_eq]; rfl
      · rw [wr_ne (by omega), wr_ne (by omega), r9 _ _ (by omega) (by omega), y8.1]
      · rw [wr_ne (by omega), w3 _ _ (by omega), wr_ne (by omega), wr_eq, wr_ne (by omega), wr_ne (by omega), r6]
      · rw [wr_ne (by omega), w3 _ _ (by omega), k4 _ _ (by omega)]
      · rw [wr_ne (by omega), wr_ne (by omega), r9 _ _ (by omega) (by omega), y9 _ _ (by omega), y3 _ _ (by omega)]
      · rw [uB _ (by omega), r7.2.2.1 _ (by omega)]
    · obtain ⟨Y', z1, z2, z3, z4, z5, z6⟩ := back 2 (by omega) (by omega) r9
      have q2 : c 0 = 10 := by omega
      rw [if_neg (show ¬ nI (c 0) < 10 by rw [show (10 : Int32) = nI 10 from rfl, n_lt (by omega) (by omega)]; exact q), if_pos (show nI (c 0) = 10 by rw [q2]; rfl), show md_river_J66 2 Y5 = _ from z1]
      exact ⟨2, 0, _, 0, Y', c, rfl, rfl, Or.inr (Or.inr ⟨rfl, z2⟩), ⟨k1, k2, hw, hb, z3, k3⟩, wr_eq, z4, by rw [wr_ne (by omega), wr_eq, z5, r6], k4, z6, fun _ _ => rfl⟩
  · obtain ⟨k1, k2, k3, k4⟩ := keep (nI q) r5
    obtain ⟨Y', z1, z2, z3, z4, z5, z6⟩ := back 1 (by omega) (by omega) r6
    rw [r1, r2, bnd_s, bnd_s, if_neg (BS_f r4 hn)]
    unfold rf_endReading
    rw [if_pos rfl, k_start r3, bind_s, lt1_ap, lt1_ap, bind_s, if_pos rfl, show md_river_J66 1 Y5 = _ from z1]
    exact ⟨1, 0, _, 0, Y', c, rfl, rfl, Or.inr (Or.inl ⟨rfl, z2⟩), ⟨k1, k2, hw, hb, z3, k3⟩, wr_eq, z4, by rw [wr_ne (by omega), wr_eq, z5, r4.1], k4, z6, fun _ _ => rfl⟩
