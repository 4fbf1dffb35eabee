/-! a river is read: apart, with, stream, measure; the line -/
theorem J289_f {Y : Mem} (x y z : Int32) (h : ¬ Y 0 10 = -1) : md_riverLine_J289 x y z Y = some Y := by
  unfold md_riverLine_J289
  rw [if_neg h]
theorem J248_f {Y : Mem} (h : ¬ Y 0 10 = -1) : md_riverLine_J248 Y = some Y := by
  unfold md_riverLine_J248
  rw [r_being_f _ _ h, bnd_s, r_being_f _ _ h, bnd_s, if_neg h]
  exact J289_f _ _ _ h
theorem J399_f {Y : Mem} (h : ¬ Y 0 10 = -1) : md_riverLine_J399 Y = some Y := by
  unfold md_riverLine_J399
  rw [r_being_f _ _ h, bnd_s, r_being_f _ _ h, bnd_s, if_neg h]
theorem ne_m1' {v : Nat} (h : v < 2147483648) : ¬ nI v = -1 := ne_m1 h
theorem apart_sim {X Y : Mem} {b : Nat → Nat} {e a p : Nat} {c : Nat → Nat} (h : GS X Y b e c a p) (hK : KD b e p = 13) : LRes X Y b e c (rr_readApart X) (if setA Y (beh b e p) 1 12 = 12 then (md_wrong (nI p) (setA Y (beh b e p))).bind fun M43 => md_riverLine_J248 M43 else md_riverLine_J248 (setA Y (beh b e p))) := by
  have he := h.2.2.1.2.1
  have hw := h.2.2.2.2.2.2.2.2
  have h10 := WR_n hw
  have h12 : c 12 ≤ 12 := hw.2.2.2.2.2.1
  have hpe := KD_lt (b := b) (e := e) (p := p) (by omega)
  obtain ⟨g1, g2⟩ := GS_next h hpe
  have e1 : setA Y (beh b e p) 1 12 = nI (c 12) := EY_n g2.2.2.2.1 (i := 12) (by omega) (by omega)
  have hX : X 14 10 = nI (c 12) := h.2.1.2.2.2.2.2.2.1
  unfold rr_readApart
  rw [hX, e1]
  by_cases hn : c 12 < 12
  · rw [if_pos (show nI (c 12) < 12 by rw [show (12 : Int32) = nI 12 from rfl, n_lt (by omega) (by omega)]; exact hn), g1, bind_s, if_neg (show ¬ nI (c 12) = 12 by rw [show (12 : Int32) = nI 12 from rfl, n_eq (by omega) (by omega)]; omega)]
    unfold md_riverLine_J248
    rcases oth_sim g2 (m := 0) (p1 := -1) (p2 := -1) (fun v hv => ⟨fun q => by rw [Nat.zero_testBit] at q; exact Bool.noConfusion q, fun q => absurd (q.elim id id) (ne_m1 (by omega))⟩) with ⟨x, x1, x2, n1, n2, n3⟩ | ⟨n1, v, Y', _, n2, n3, n4⟩
    · have sh : ∀ x, x < 10 → (1 : Int32) <<< (nI x &&& 31) = nI (2 ^ x) := fun x hx => by rw [show (31 : Int32) = nI 31 from rfl, n_m31 (by omega), show (1 : Int32) = nI 1 from rfl, n_shl1 (by omega)]
      rw [show rr_readOther 0 (mvT X) = _ from n1, n2, bnd_s, bnd_s, if_neg (ne_m1 (by omega)), sh x (by omega)]
      rcases oth_sim n3 (m := 2 ^ x) (p1 := nI x) (p2 := -1) (fun v hv => by
          rw [Nat.testBit_two_pow, decide_eq_true_iff, n_eq (by omega) (by omega)]
          exact ⟨fun q => Or.inl q.symm, fun q => q.elim (fun q => q.symm) (fun q => absurd q (ne_m1 (by omega)))⟩) with ⟨y, y1, y2, m1, m2, m3⟩ | ⟨m1, v, Y', _, m2, m3, m4⟩
      · rw [m1, m2, bnd_s, bnd_s, if_neg (ne_m1 (by omega)), sh y (by omega), m3.2.2.2.2.1, if_pos rfl, lt1_ap, n_or]
        by_cases q2 : KD b e (nxt b e (nxt b e (nxt b e p))) = 14
        · obtain ⟨t1, t2⟩ := take_yes m3 (w := 14) (by omega) (by omega) q2
          rw [show tp_take 14 (mvT (mvT (mvT X))) = _ from t1, has_yes m3 W29 q2, bnd_s, bnd_s, if_neg (show ¬ nI 1 = 0 by decide), if_neg (show ¬ (1 : Int32) = 0 by decide)]
          rcases oth_sim t2 (m := 2 ^ x ||| 2 ^ y) (p1 := nI x) (p2 := nI y) (fun v hv => by
              rw [Nat.testBit_or, Nat.testBit_two_pow, Nat.testBit_two_pow, Bool.or_eq_true, decide_eq_true_iff, decide_eq_true_iff, n_eq (by omega) (by omega), n_eq (by omega) (by omega)]
              exact ⟨fun q => q.imp Eq.symm Eq.symm, fun q => q.imp Eq.symm Eq.symm⟩) with ⟨g, z1, z2, k1, k2, k3⟩ | ⟨k1, v, Y', _, k2, k3, k4⟩
          · rw [k1, k2, bnd_s, bnd_s, if_neg (ne_m1 (by omega)), sh g (by omega)]
            obtain ⟨X2, a1, a2, a3⟩ := k_addA (x := x) (y := y) (g := g + 1) k3.2.1 hw hn
            obtain ⟨Y2, b1, b2, b3⟩ := r_addA (x := x) (y := y) (g := g + 1) (z := nI g) k3.2.2.2.1 k3.2.2.2.2.1 hn (by rw [n_sub (by omega)]; rfl)
            rw [if_neg (by omega), Nat.add_sub_cancel] at a1
            rw [a1, b1, bnd_s, if_neg (show ¬ (1 : Int32) = 0 by decide)]
            exact Or.inl ⟨X2, Y2, _, _, _, rfl, rfl, GS_upd k3 a3 a2 b3 b2 (WR_a hw hn x1 y1 (by omega)), KP_eq fun i hi => apC_ne (by omega) (by omega), FrX_tr (FrX_tr (FrX_tr (FrX_tr (FrX_tr FrX_mv FrX_mv) FrX_mv) FrX_mv) FrX_mv) (frX_of a3), FrY_tr (FrY_tr (FrY_tr (FrY_tr (FrY_tr FrY_A FrY_A) FrY_A) FrY_A) FrY_A) (frY_of b3)⟩
          · rw [k1, k2, bnd_s, bnd_s, if_pos rfl]
            exact Or.inr ⟨_, Y', _, rfl, J289_f _ _ _ (BS_f k3 he), t2.1, k3, FrX_tr (FrX_tr (FrX_tr FrX_mv FrX_mv) FrX_mv) FrX_mv, FrY_tr (FrY_tr (FrY_tr (FrY_tr FrY_A FrY_A) FrY_A) FrY_A) k4⟩
        · rw [show tp_take 14 (mvT (mvT (mvT X))) = _ from k_take_no m3.1 (w := 14) (by omega) q2, has_no m3 W29 q2, bnd_s, bnd_s, if_pos (show nI 0 = 0 from rfl), if_pos rfl]
          have k3 := (GS_skip m3).2
          obtain ⟨X2, a1, a2, a3⟩ := k_addA (x := x) (y := y) (g := 0) k3.2.1 hw hn
          obtain ⟨Y2, b1, b2, b3⟩ := r_addA (x := x) (y := y) (g := 0) (z := -1) k3.2.2.2.1 k3.2.2.2.2.1 hn rfl
          rw [if_pos rfl] at a1
          unfold md_riverLine_J288
          rw [show rv_addApart 14 (nI (2 ^ x ||| 2 ^ y)) 0 (mvT (mvT (mvT X))) = _ from a1, b1, bnd_s]
          exact Or.inl ⟨X2, Y2, _, _, _, rfl, rfl, GS_upd k3 a3 a2 b3 b2 (WR_a hw hn x1 y1 (by omega)), KP_eq fun i hi => apC_ne (by omega) (by omega), FrX_tr (FrX_tr (FrX_tr FrX_mv FrX_mv) FrX_mv) (frX_of a3), FrY_tr (FrY_tr (FrY_tr (FrY_tr FrY_A FrY_A) FrY_A) FrY_A) (frY_of b3)⟩
      · rw [m1, m2, bnd_s, bnd_s, if_pos rfl, if_neg (BS_f m3 he)]
        exact Or.inr ⟨_, Y', _, rfl, J289_f _ _ _ (BS_f m3 he), n3.1, m3, FrX_tr FrX_mv FrX_mv, FrY_tr (FrY_tr FrY_A FrY_A) m4⟩
    · rw [show rr_readOther 0 (mvT X) = _ from n1, n2, bnd_s, bnd_s, if_pos rfl, r_being_f _ _ (BS_f n3 he), bnd_s, if_neg (BS_f n3 he)]
      exact Or.inr ⟨_, Y', _, rfl, J289_f _ _ _ (BS_f n3 he), g2.1, n3, FrX_mv, FrY_tr FrY_A n4⟩
  · have hn : c 12 = 12 := by omega
    rw [if_neg (show ¬ nI (c 12) < 12 by rw [show (12 : Int32) = nI 12 from rfl, n_lt (by omega) (by omega)]; omega), if_pos (show nI (c 12) = 12 by rw [hn]; rfl), r_wrong _ (by rw [setA_10, h.2.2.2.2.1]), bind_s]
    have hB := BS_B (Y := Y) (beh_gt (b := b) hpe).2 (TPo_le h.1)
    exact Or.inr ⟨X, _, p, rfl, J248_f (BS_f hB he), h.1, hB, FrX_rfl, FrY_B⟩
theorem with_sim {X Y : Mem} {b : Nat → Nat} {e a p : Nat} {c : Nat → Nat} (h : GS X Y b e c a p) (hK : KD b e p = 15) : LRes X Y b e c (rr_readWith X) (if setA Y (beh b e p) 1 13 = 12 then (md_wrong (nI p) (setA Y (beh b e p))).bind fun M30 => md_riverLine_J399 M30 else md_riverLine_J399 (setA Y (beh b e p))) := by
  have he := h.2.2.1.2.1
  have hw := h.2.2.2.2.2.2.2.2
  have h10 := WR_n hw
  have h13 : c 13 ≤ 12 := hw.2.2.2.2.2.2.1
  have hpe := KD_lt (b := b) (e := e) (p := p) (by omega)
  obtain ⟨g1, g2⟩ := GS_next h hpe
  have e1 : setA Y (beh b e p) 1 13 = nI (c 13) := EY_n g2.2.2.2.1 (i := 13) (by omega) (by omega)
  have hX : X 14 13 = nI (c 13) := h.2.1.2.2.2.2.2.2.2.2.1
  unfold rr_readWith
  rw [hX, e1]
  by_cases hn : c 13 < 12
  · rw [if_pos (show nI (c 13) < 12 by rw [show (12 : Int32) = nI 12 from rfl, n_lt (by omega) (by omega)]; exact hn), g1, bind_s, if_neg (show ¬ nI (c 13) = 12 by rw [show (12 : Int32) = nI 12 from rfl, n_eq (by omega) (by omega)]; omega)]
    unfold md_riverLine_J399
    rcases oth_sim g2 (m := 0) (p1 := -1) (p2 := -1) (fun v hv => ⟨fun q => by rw [Nat.zero_testBit] at q; exact Bool.noConfusion q, fun q => absurd (q.elim id id) (ne_m1 (by omega))⟩) with ⟨x, x1, x2, n1, n2, n3⟩ | ⟨n1, v, Y', _, n2, n3, n4⟩
    · have sh : ∀ x, x < 10 → (1 : Int32) <<< (nI x &&& 31) = nI (2 ^ x) := fun x hx => by rw [show (31 : Int32) = nI 31 from rfl, n_m31 (by omega), show (1 : Int32) = nI 1 from rfl, n_shl1 (by omega)]
      rw [show rr_readOther 0 (mvT X) = _ from n1, n2, bnd_s, bnd_s, if_neg (ne_m1 (by omega)), sh x (by omega)]
      rcases oth_sim n3 (m := 2 ^ x) (p1 := nI x) (p2 := -1) (fun v hv => by
          rw [Nat.testBit_two_pow, decide_eq_true_iff, n_eq (by omega) (by omega)]
          exact ⟨fun q => Or.inl q.symm, fun q => q.elim (fun q => q.symm) (fun q => absurd q (ne_m1 (by omega)))⟩) with ⟨y, y1, y2, m1, m2, m3⟩ | ⟨m1, v, Y', _, m2, m3, m4⟩
      · rw [m1, m2, bnd_s, bnd_s, if_neg (ne_m1 (by omega)), m3.2.2.2.2.1, if_pos rfl]
        obtain ⟨X2, a1, a2, a3⟩ := k_addW (x := x) (y := y) m3.2.1 hw hn x1 y1
        have hE := m3.2.2.2.1
        have b1 : setA (setA (setA Y (beh b e p)) (beh b e (nxt b e p))) (beh b e (nxt b e (nxt b e p))) 1 13 = nI (c 13) := EY_n hE (i := 13) (by omega) (by omega)
        have hf3 : FrY Y (setA (setA (setA Y (beh b e p)) (beh b e (nxt b e p))) (beh b e (nxt b e (nxt b e p)))) := FrY_tr (FrY_tr FrY_A FrY_A) FrY_A
        generalize setA (setA (setA Y (beh b e p)) (beh b e (nxt b e p))) (beh b e (nxt b e (nxt b e p))) = Y3 at *
        have f1 : ∀ j v, ¬ j = 13 → wr Y3 1 j v 1 13 = nI (c 13) := fun j v hj => by rw [wr_ne (by omega), b1]
        have f2 : ∀ j v j2 v2, ¬ j = 13 → ¬ j2 = 13 → wr (wr Y3 1 j v) 1 j2 v2 1 13 = nI (c 13) := fun j v j2 v2 hj h2 => by rw [wr_ne (by omega), f1 _ _ hj]
        rw [a1, bnd_s, if_neg (show ¬ (1 : Int32) = 0 by decide), b1]
        simp (disch := omega) only [n_lit, n_mul, n_add, chk_in, n_cl, lt1_ap, f1, f2]
        exact Or.inl ⟨X2, _, _, _, _, rfl, rfl, GS_upd m3 a3 a2 (fun r i q => by rw [wr_ne (by omega), wr_ne (by omega), wr_ne (by omega)]) (EY_wi hE hn) (WR_w hw hn x1 y1), KP_eq fun i hi => wiC_ne (by omega) (by omega), FrX_tr (FrX_tr (FrX_tr FrX_mv FrX_mv) FrX_mv) (frX_of a3), FrY_tr hf3 (frY_of fun r i q => by rw [wr_ne (by omega), wr_ne (by omega), wr_ne (by omega)])⟩
      · rw [m1, m2, bnd_s, bnd_s, if_pos rfl, if_neg (BS_f m3 he)]
        exact Or.inr ⟨_, Y', _, rfl, rfl, n3.1, m3, FrX_tr FrX_mv FrX_mv, FrY_tr (FrY_tr FrY_A FrY_A) m4⟩
    · rw [show rr_readOther 0 (mvT X) = _ from n1, n2, bnd_s, bnd_s, if_pos rfl, r_being_f _ _ (BS_f n3 he), bnd_s, if_neg (BS_f n3 he)]
      exact Or.inr ⟨_, Y', _, rfl, rfl, g2.1, n3, FrX_mv, FrY_tr FrY_A n4⟩
  · have hn : c 13 = 12 := by omega
    rw [if_neg (show ¬ nI (c 13) < 12 by rw [show (12 : Int32) = nI 12 from rfl, n_lt (by omega) (by omega)]; omega), if_pos (show nI (c 13) = 12 by rw [hn]; rfl), r_wrong _ (by rw [setA_10, h.2.2.2.2.1]), bind_s]
    have hB := BS_B (Y := Y) (beh_gt (b := b) hpe).2 (TPo_le h.1)
    exact Or.inr ⟨X, _, p, rfl, J399_f (BS_f hB he), h.1, hB, FrX_rfl, FrY_B⟩
theorem strm_f {Y : Mem} {s v : Int32} {K : Mem → Option Mem} (h : ¬ Y 0 10 = -1) : md_riverLine_L187 s K FU v Y = K Y := by
  rw [show FU = 999999 + 1 from rfl, md_riverLine_L187]
  by_cases q : v < 24
  · rw [if_pos q, if_neg h]
  · rw [if_neg q]
theorem strm_sim {X Y : Mem} {b : Nat → Nat} {e a p : Nat} {c : Nat → Nat} (h : GS X Y b e c a p) (hK : KD b e p = 12) : LRes X Y b e c (rr_readStream X) (bnd2 (md_figures 0 23 (setA Y (beh b e p))) fun v45 M44 => bnd2 (md_figures 0 9 M44) fun v47 M46 => md_riverLine_L187 v47 (fun M50 => some M50) FU v45 M46) := by
  have he := h.2.2.1.2.1
  have hw := h.2.2.2.2.2.2.2.2
  have hpe := KD_lt (b := b) (e := e) (p := p) (by omega)
  obtain ⟨g1, g2⟩ := GS_next h hpe
  unfold rr_readStream
  rw [g1, bind_s]
  rcases num_sim g2 (lo := 0) (H := 24) (hi := 23) (by omega) (by omega) rfl with ⟨H, w1, w2, n1, n2, n3⟩ | ⟨n1, v, Y', _, n2, n3, n4⟩
  · rw [show rr_readNumber 0 23 (mvT X) = _ from n1, show md_figures 0 23 (setA Y (beh b e p)) = _ from n2, bnd_s, bnd_s, if_neg (ne_m1 (by omega))]
    rcases num_sim n3 (lo := 0) (H := 10) (hi := 9) (by omega) (by omega) rfl with ⟨S, z1, z2, m1, m2, m3⟩ | ⟨m1, v, Y', _, m2, m3, m4⟩
    · rw [show rr_readNumber 0 9 (mvT (mvT X)) = _ from m1, show md_figures 0 9 (setA (setA Y (beh b e p)) (beh b e (nxt b e p))) = _ from m2, bnd_s, bnd_s, if_neg (ne_m1 (by omega))]
      obtain ⟨X2, a1, a2, a3⟩ := kst_L (S := S) (p1 := nI H) (K := fun M3 => some M3) (24 - H) H FU (mvT (mvT (mvT X))) (by omega) (by rw [FUe]; omega)
      obtain ⟨Y2, b1, b2, b3⟩ := rst_L (S := S) (K := fun M50 => some M50) (24 - H) H FU (setA (setA (setA Y (beh b e p)) (beh b e (nxt b e p))) (beh b e (nxt b e (nxt b e p)))) (by omega) (by rw [FUe]; omega) m3.2.2.2.2.1
      have a0 : rv_setStream 14 (nI H) (nI S) (mvT (mvT (mvT X))) = some X2 := by
        unfold rv_setStream
        rw [show imax (nI H) 0 = nI H from by
          have : ∀ n, n < 24 → imax (nI n) 0 = nI n := by decide +kernel
          exact this H w2]
        exact a1
      rw [a0, bind_s, b1]
      have hx : ∀ r i, ¬ (14 ≤ r ∧ r < 22) → X2 r i = mvT (mvT (mvT X)) r i := fun r i q => a3 r i (by omega)
      have hy : ∀ r i, ¬ (r = 1 ∧ i < 248) → Y2 r i = setA (setA (setA Y (beh b e p)) (beh b e (nxt b e p))) (beh b e (nxt b e (nxt b e p))) r i := fun r i q => b3 r i (by omega)
      exact Or.inl ⟨X2, Y2, _, _, _, rfl, rfl, GS_upd m3 hx (XR_s m3.2.1 hw a2 a3) hy (EY_s m3.2.2.2.1 b2 (fun i q => b3 1 i (by omega))) (WR_s hw (by omega)), KP_eq fun i hi => if_neg (by omega), FrX_tr (FrX_tr (FrX_tr FrX_mv FrX_mv) FrX_mv) (frX_of hx), FrY_tr (FrY_tr (FrY_tr FrY_A FrY_A) FrY_A) (frY_of hy)⟩
    · rw [show rr_readNumber 0 9 (mvT (mvT X)) = _ from m1, show md_figures 0 9 (setA (setA Y (beh b e p)) (beh b e (nxt b e p))) = _ from m2, bnd_s, bnd_s, if_pos rfl]
      exact Or.inr ⟨_, Y', _, rfl, strm_f (BS_f m3 he), n3.1, m3, FrX_tr FrX_mv FrX_mv, FrY_tr (FrY_tr FrY_A FrY_A) m4⟩
  · rw [show rr_readNumber 0 23 (mvT X) = _ from n1, show md_figures 0 23 (setA Y (beh b e p)) = _ from n2, bnd_s, bnd_s, if_pos rfl, r_figures_f _ _ (BS_f n3 he), bnd_s]
    exact Or.inr ⟨_, Y', _, rfl, strm_f (BS_f n3 he), g2.1, n3, FrX_mv, FrY_tr FrY_A n4⟩
theorem mes_sim {X Y : Mem} {b : Nat → Nat} {e a p lo H j : Nat} {c : Nat → Nat} {p1 hi : Int32} (h : GS X Y b e c a p) (hlo : lo ≤ 1000) (hH : 0 < H ∧ H ≤ 1000) (hh : hi = nI (H - 1)) (hj : 6 ≤ j ∧ j ≤ 8) (x2 x3 : Int32) (hx : (j = 6 ∧ x2 = 1) ∨ (j = 7 ∧ x2 = 0 ∧ x3 = 1) ∨ (j = 8 ∧ x2 = 0 ∧ x3 = 0)) (hv : ∀ v, lo ≤ v → v < H → WR (up c (j - 1) v)) : LRes X Y b e c (bnd2 (rr_readNumber (nI lo) hi X) fun v M => rr_readMeasure_J86 p1 x2 x3 v M) (bnd2 (md_figures (nI lo) hi Y) fun v M => some (wr M 1 (j - 1) v)) := by
  have he := h.2.2.1.2.1
  have hw := h.2.2.2.2.2.2.2.2
  rcases num_sim h hlo hH hh with ⟨v, w1, w2, n1, n2, n3⟩ | ⟨n1, v, Y', _, n2, n3, n4⟩
  · rw [n1, n2, bnd_s, bnd_s]
    have hc : rr_readMeasure_J86 p1 x2 x3 (nI v) (mvT X) = some (1, wr (mvT X) 14 j (nI v)) := by
      unfold rr_readMeasure_J86
      rw [if_neg (ne_m1 (by omega))]
      rcases hx with ⟨rfl, rfl⟩ | ⟨rfl, rfl, rfl⟩ | ⟨rfl, rfl, rfl⟩
      · rw [if_neg (show ¬ (1 : Int32) = 0 by decide), lt1_ap]
      · rw [if_pos rfl, if_neg (show ¬ (1 : Int32) = 0 by decide), lt1_ap]
      · rw [if_pos rfl, if_pos rfl, lt1_ap]
    exact Or.inl ⟨_, _, _, _, _, hc, rfl, GS_upd n3 (fun r i q => wr_ne (by omega)) (XR_m n3.2.1 hw hj) (fun r i q => wr_ne (by omega)) (EY_up v n3.2.2.2.1 (by omega) (by omega)) (hv v w1 w2), KP_eq fun i hi => up_ne (by omega), FrX_tr FrX_mv (frX_of fun r i q => wr_ne (by omega)), FrY_tr FrY_A (frY_of fun r i q => wr_ne (by omega))⟩
  · rw [n1, n2, bnd_s, bnd_s]
    refine Or.inr ⟨X, _, p, ?_, rfl, h.1, ⟨?_, n3.2.1, ?_⟩, FrX_rfl, FrY_tr n4 (frY_of fun r i q => wr_ne (by omega))⟩
    · unfold rr_readMeasure_J86
      rw [if_pos rfl]
    · rw [wr_ne (by omega), n3.1]
    · obtain ⟨a, h1, h2⟩ := n3.2.2
      exact ⟨a, h1, by rw [wr_ne (by omega), h2]⟩
