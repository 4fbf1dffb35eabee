/-! a river is read: a line in both -/
def LRes (X Y : Mem) (b : Nat → Nat) (e : Nat) (c : Nat → Nat) (A : Option (Int32 × Mem)) (B : Option Mem) : Prop :=
  (∃ X' Y' c' a' p', A = some (1, X') ∧ B = some Y' ∧ GS X' Y' b e c' a' p' ∧ KP c c' ∧ FrX X X' ∧ FrY Y Y') ∨ (∃ X' Y' q, A = some (0, X') ∧ B = some Y' ∧ TPo X' b e q ∧ BS Y' e q ∧ FrX X X' ∧ FrY Y Y')
theorem LRes_tr {X0 Y0 X Y : Mem} {b : Nat → Nat} {e : Nat} {c : Nat → Nat} {A : Option (Int32 × Mem)} {B : Option Mem} (h1 : FrX X0 X) (h2 : FrY Y0 Y) (h : LRes X Y b e c A B) : LRes X0 Y0 b e c A B := by
  rcases h with ⟨X', Y', c', a', p', g1, g2, g3, g4, g5, g6⟩ | ⟨X', Y', q, g1, g2, g3, g4, g5, g6⟩
  · exact Or.inl ⟨X', Y', c', a', p', g1, g2, g3, g4, FrX_tr h1 g5, FrY_tr h2 g6⟩
  · exact Or.inr ⟨X', Y', q, g1, g2, g3, g4, FrX_tr h1 g5, FrY_tr h2 g6⟩
theorem LRes_b {X Y : Mem} {b : Nat → Nat} {e : Nat} {c : Nat → Nat} {A : Option (Int32 × Mem)} {B : Option Mem} (h : LRes X Y b e c A B) : LRes X Y b e c A (B.bind fun M => some M) := by
  rcases h with ⟨X', Y', c', a', p', g1, g2, g3⟩ | ⟨X', Y', q, g1, g2, g3⟩
  · exact Or.inl ⟨X', Y', c', a', p', g1, by rw [g2]; rfl, g3⟩
  · exact Or.inr ⟨X', Y', q, g1, by rw [g2]; rfl, g3⟩
theorem LRes_c {X Y : Mem} {b : Nat → Nat} {e : Nat} {c : Nat → Nat} {A : Option (Int32 × Mem)} {B : Option Mem} (h : LRes X Y b e c A B) : LRes X Y b e c (bnd2 A fun v M => chk (isB v) (some (v, M))) B := by
  rcases h with ⟨X', Y', c', a', p', g1, g2, g3⟩ | ⟨X', Y', q, g1, g2, g3⟩
  · exact Or.inl ⟨X', Y', c', a', p', by rw [g1]; rfl, g2, g3⟩
  · exact Or.inr ⟨X', Y', q, by rw [g1]; rfl, g2, g3⟩
theorem frX_of {X X' : Mem} (h : ∀ r i, ¬ (14 ≤ r ∧ r < 22) → X' r i = X r i) : FrX X X' := fun r i a _ => h r i a
theorem frY_of {Y Y' : Mem} (h : ∀ r i, ¬ (r = 1 ∧ i < 248) → Y' r i = Y r i) : FrY Y Y' := fun r i _ a => h r i a
theorem has_yes {X Y : Mem} {b : Nat → Nat} {e a p w k : Nat} {c : Nat → Nat} (h : GS X Y b e c a p) (hw : WPr w k) (hk : KD b e p = k) : md_has w Y = some (1, setA Y (beh b e p)) := by
  obtain ⟨h1, h2, h3, h4, h5, h6, h7, h8, h9⟩ := h
  have he := h3.2.1
  obtain ⟨k1, k2⟩ := has_KD (b := b) (e := e) (p := p) hw
  have h1 := k1.mpr hk
  have := r_has h3 h6 (by omega) hw.1 (by rw [hw.2.2.2.1]; exact (stx_word (k - 1) (by have := hw.2.2.1; omega) (by have := hw.2.1; omega)).1)
  rw [h8, h1, if_pos rfl, (k2 h1).1] at this
  exact this
theorem has_no {X Y : Mem} {b : Nat → Nat} {e a p w k : Nat} {c : Nat → Nat} (h : GS X Y b e c a p) (hw : WPr w k) (hk : ¬ KD b e p = k) : md_has w Y = some (0, setA Y p) := by
  obtain ⟨h1, h2, h3, h4, h5, h6, h7, h8, h9⟩ := h
  have he := h3.2.1
  obtain ⟨k1, k2⟩ := has_KD (b := b) (e := e) (p := p) hw
  have h1 : hasB b e p w = false := Bool.eq_false_iff.mpr fun q => hk (k1.mp q)
  have := r_has h3 h6 (by omega) hw.1 (by rw [hw.2.2.2.1]; exact (stx_word (k - 1) (by have := hw.2.2.1; omega) (by have := hw.2.1; omega)).1)
  rw [h8, h1, if_neg (by decide)] at this
  exact this
theorem take_yes {X Y : Mem} {b : Nat → Nat} {e a p w : Nat} {c : Nat → Nat} (h : GS X Y b e c a p) (hw : w < 30) (h1w : 1 < w) (hk : KD b e p = w) : tp_take (nI w) X = some (nI 1, mvT X) ∧ GS (mvT X) (setA Y (beh b e p)) b e c (beh b e p) (nxt b e p) :=
  ⟨(k_take_yes h.1 hw h1w hk).1, (GS_next h (KD_lt (b := b) (e := e) (p := p) (by omega))).2⟩
theorem J69_f {Y : Mem} (p1 p2 x s w : Int32) (h : ¬ Y 0 10 = -1) : md_comes_J69 p1 p2 x s w Y = some Y := by
  unfold md_comes_J69
  rw [if_neg h]
theorem J32_f {Y : Mem} (p1 p2 s : Int32) (h : ¬ Y 0 10 = -1) : md_comes_J32 p1 p2 s Y = some Y := by
  unfold md_comes_J32
  rw [r_figures_f _ _ h, bnd_s, if_neg h]
  exact J69_f _ _ _ _ _ h
theorem J16_f {Y : Mem} (p1 p2 : Int32) (h : ¬ Y 0 10 = -1) : md_comes_J16 p1 p2 Y = some Y := by
  unfold md_comes_J16
  by_cases q : p1 < 2
  · rw [if_pos q, r_figures_f _ _ h, bnd_s]
    exact J32_f _ _ _ h
  · rw [if_neg q]
    exact J32_f _ _ _ h
/-- how heavy and whether it takes it ill -/
theorem come_sim {X Y : Mem} {b : Nat → Nat} {e a p k s : Nat} {c : Nat → Nat} {p2 : Int32} (h : GS X Y b e c a p) (hk : k ≤ 3) (hs : s ≤ 9) (hn : c 1 < 10) : LRes X Y b e c (rr_readBeing_J51 (nI k) (if k < 2 then 1 else 0) (nI s) X) (md_comes_J32 (nI k) p2 (nI s) Y) := by
  have he := h.2.2.1.2.1
  have fin : ∀ {X1 Y1 : Mem} {a1 p1 w : Nat} (m : Bool), GS X1 Y1 b e c a1 p1 → 1 ≤ w → w ≤ 99 → FrX X X1 → FrY Y Y1 → LRes X Y b e c (bnd2 (rv_addBeing 14 (nI k) (nI s) (nI w) (bI m) X1) fun v M => chk (isB v) (some (v, M))) (md_comes_J69 (nI k) p2 (nI s) (nI w) (bI m) Y1) := fun {X1 Y1 a1 p1 w} m g w1 w2 f1 f2 => by
    obtain ⟨X2, x1, x2, x3⟩ := k_addB (k := k) (s := s) (w := w) (m := m) g.2.1 g.2.2.2.2.2.2.2.2 hn
    obtain ⟨Y2, y1, y2, y3⟩ := r_addB (k := k) (s := s) (w := w) (m := m) (p2 := p2) g.2.2.2.1 g.2.2.2.2.1 hn
    refine Or.inl ⟨X2, Y2, _, _, _, by rw [x1]; rfl, y1, GS_upd g x3 x2 y3 y2 (WR_b g.2.2.2.2.2.2.2.2 hn hk hs w1 w2 (by cases m <;> decide)), KP_b hn, FrX_tr f1 (frX_of x3), FrY_tr f2 (frY_of y3)⟩
  unfold rr_readBeing_J51 md_comes_J32
  rw [if_neg (ne_m1 (by omega))]
  rcases num_sim h (lo := 1) (H := 100) (hi := 99) (by omega) (by omega) rfl with ⟨w, w1, w2, n1, n2, n3⟩ | ⟨n1, v, Y', _, n2, n3, n4⟩
  · rw [show rr_readNumber 1 99 X = _ from n1, show md_figures 1 99 Y = _ from n2, bnd_s, bnd_s, if_neg (ne_m1 (by omega)), n3.2.2.2.2.1, if_pos rfl]
    by_cases q : k < 2
    · rw [if_pos q, if_neg (show ¬ (1 : Int32) = 0 by decide), if_pos (show nI k < 2 by rw [show (2 : Int32) = nI 2 from rfl, n_lt (by omega) (by omega)]; exact q)]
      by_cases q2 : KD b e (nxt b e p) = 8
      · obtain ⟨t1, t2⟩ := take_yes n3 (w := 8) (by omega) (by omega) q2
        rw [show tp_take 8 (mvT X) = _ from t1, has_yes n3 W20 q2, bnd_s, bnd_s, if_neg (show ¬ nI 1 = 0 by decide), if_neg (show ¬ (1 : Int32) = 0 by decide)]
        exact fin true t2 w1 (by omega) (FrX_tr FrX_mv FrX_mv) (FrY_tr FrY_A FrY_A)
      · rw [show tp_take 8 (mvT X) = _ from k_take_no n3.1 (w := 8) (by omega) q2, has_no n3 W20 q2, bnd_s, bnd_s, if_pos (show nI 0 = 0 from rfl), if_pos rfl]
        exact fin false (GS_skip n3).2 w1 (by omega) FrX_mv (FrY_tr FrY_A FrY_A)
    · rw [if_neg q, if_pos rfl, if_neg (show ¬ nI k < 2 by rw [show (2 : Int32) = nI 2 from rfl, n_lt (by omega) (by omega)]; exact q)]
      exact fin false n3 w1 (by omega) FrX_mv FrY_A
  · rw [show rr_readNumber 1 99 X = _ from n1, show md_figures 1 99 Y = _ from n2, bnd_s, bnd_s, if_pos rfl, if_neg (BS_f n3 he)]
    refine Or.inr ⟨X, Y', p, rfl, J69_f _ _ _ _ _ (BS_f n3 he), h.1, n3, FrX_rfl, n4⟩
theorem being_sim {X Y : Mem} {b : Nat → Nat} {e a p k : Nat} {c : Nat → Nat} (h : GS X Y b e c a p) (hk : k ≤ 3) (hK : KD b e p = k + 4) : LRes X Y b e c (rr_readBeing (nI k) X) (md_comes (nI k) (nI p) (setA Y (beh b e p))) := by
  have he := h.2.2.1.2.1
  have hw := h.2.2.2.2.2.2.2.2
  have h10 := WR_n hw
  have hpe := KD_lt (b := b) (e := e) (p := p) (by omega)
  obtain ⟨g1, g2⟩ := GS_next h hpe
  have e1 : setA Y (beh b e p) 1 1 = nI (c 1) := EY_n g2.2.2.2.1 (i := 1) (by omega) (by omega)
  unfold rr_readBeing md_comes
  rw [h.2.1.2.1, e1]
  by_cases hn : c 1 < 10
  · rw [if_pos (show nI (c 1) < 10 by rw [show (10 : Int32) = nI 10 from rfl, n_lt (by omega) (by omega)]; exact hn), g1, bind_s, if_neg (show ¬ nI (c 1) = 10 by rw [show (10 : Int32) = nI 10 from rfl, n_eq (by omega) (by omega)]; omega)]
    unfold md_comes_J16
    by_cases q : k < 2
    · have hcl : (if nI k = 0 then rr_readBeing_J30 (nI k) (mvT X) else (if nI k = (1 : Int32) then rr_readBeing_J30 (nI k) (mvT X) else rr_readBeing_J35 (nI k) ((0 : Int32)) (mvT X))) = bnd2 (rr_readNumber ((0 : Int32)) ((9 : Int32)) (mvT X)) fun v13 M12 => rr_readBeing_J51 (nI k) 1 (v13) M12 := by
        have : rr_readBeing_J30 (nI k) (mvT X) = bnd2 (rr_readNumber ((0 : Int32)) ((9 : Int32)) (mvT X)) fun v13 M12 => rr_readBeing_J51 (nI k) 1 (v13) M12 := by
          unfold rr_readBeing_J30 rr_readBeing_J35
          rw [if_neg (show ¬ (1 : Int32) = 0 by decide)]
        by_cases q0 : k = 0
        · rw [q0] at this ⊢
          rw [if_pos (show nI 0 = 0 from rfl), this]
        · obtain rfl : k = 1 := by omega
          rw [if_neg (show ¬ nI 1 = 0 by decide), if_pos (show nI 1 = 1 from rfl), this]
      rw [hcl, if_pos (show nI k < 2 by rw [show (2 : Int32) = nI 2 from rfl, n_lt (by omega) (by omega)]; exact q)]
      rcases num_sim g2 (lo := 0) (H := 10) (hi := 9) (by omega) (by omega) rfl with ⟨s, w1, w2, n1, n2, n3⟩ | ⟨n1, v, Y', _, n2, n3, n4⟩
      · rw [show rr_readNumber 0 9 (mvT X) = _ from n1, show md_figures 0 9 (setA Y (beh b e p)) = _ from n2, bnd_s, bnd_s]
        have := come_sim (p2 := nI p) n3 hk (s := s) (by omega) hn
        rw [if_pos q] at this
        exact LRes_tr (FrX_tr FrX_mv FrX_mv) (FrY_tr FrY_A FrY_A) this
      · rw [show rr_readNumber 0 9 (mvT X) = _ from n1, show md_figures 0 9 (setA Y (beh b e p)) = _ from n2, bnd_s, bnd_s]
        refine Or.inr ⟨mvT X, Y', nxt b e p, ?_, J32_f _ _ _ (BS_f n3 he), g2.1, n3, FrX_mv, FrY_tr FrY_A n4⟩
        unfold rr_readBeing_J51
        rw [if_pos rfl]
    · rw [if_neg (show ¬ nI k = 0 by rw [show (0 : Int32) = nI 0 from rfl, n_eq (by omega) (by omega)]; omega), if_neg (show ¬ nI k = 1 by rw [show (1 : Int32) = nI 1 from rfl, n_eq (by omega) (by omega)]; omega), if_neg (show ¬ nI k < 2 by rw [show (2 : Int32) = nI 2 from rfl, n_lt (by omega) (by omega)]; exact q)]
      have := come_sim (p2 := nI p) g2 hk (s := 0) (by omega) hn
      rw [if_neg q] at this
      unfold rr_readBeing_J35
      rw [if_pos rfl]
      exact LRes_tr FrX_mv FrY_A this
  · have hn : c 1 = 10 := by omega
    rw [if_neg (show ¬ nI (c 1) < 10 by rw [show (10 : Int32) = nI 10 from rfl, n_lt (by omega) (by omega)]; omega), if_pos (show nI (c 1) = 10 by rw [hn]; rfl), r_wrong _ (by rw [setA_10, h.2.2.2.2.1]), bind_s]
    have hB := BS_B (Y := Y) (beh_gt (b := b) hpe).2 (TPo_le h.1)
    exact Or.inr ⟨X, _, p, rfl, J16_f _ _ (BS_f hB he), h.1, hB, FrX_rfl, FrY_B⟩
