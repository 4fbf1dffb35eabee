/-! a river is read: the text -/
theorem S59 : SPr 59 24 := by unfold SPr; decide +kernel
theorem LTx_fr {Y Y' : Mem} {b : Nat → Nat} {e : Nat} (h : LTx Y b e) (h2 : FrY Y Y') : LTx Y' b e := LTx_cong h fun r i hr => h2 r i (by omega) (by omega)
theorem J80_f {Y : Mem} {b : Nat → Nat} {e q : Nat} {p1 x2 x3 : Int32} {rec : Int32 → Int32 → Mem → Option (Int32 × Mem)} {K : Int32 → Mem → Option (Int32 × Mem)} (hB : BS Y e q) (hL : LTx Y b e) : ∃ a', a' ≤ e ∧ md_read_J80 p1 rec K x2 x3 Y = rec 0 (x3 + 1) (setA Y a') ∧ BS (setA Y a') e q := by
  have he := hL.2.1
  obtain ⟨a, h1, h2⟩ := hB.2.2
  have hs := skp_bd (b := b) (e := e) (a := a)
  have hB2 : BS (setA Y (skp b e a)) e q := ⟨by rw [setA_10, hB.1], hB.2.1, skp b e a, by omega, setA_9⟩
  refine ⟨skp b e a, by omega, ?_, hB2⟩
  unfold md_read_J80
  rw [r_skip hL h2 (by omega), bind_s, if_neg (BS_f hB2 he)]
def TRes (X Y : Mem) (b : Nat → Nat) (e : Nat) (c : Nat → Nat) (A : Option (Int32 × Mem)) (B : Option (Int32 × Mem)) : Prop :=
  (∃ X' Y' c' v, A = some (1, X') ∧ B = some (v, Y') ∧ XRv 14 X' c' ∧ EY Y' c' ∧ WR c' ∧ Y' 0 10 = -1 ∧ KP c c' ∧ FrX X X' ∧ FrY Y Y') ∨ (∃ X' Y' q v, A = some (0, X') ∧ B = some (v, Y') ∧ TPo X' b e q ∧ BS Y' e q ∧ FrX X X' ∧ FrY Y Y')
theorem TRes_tr {X0 Y0 X Y : Mem} {b : Nat → Nat} {e : Nat} {c c0 : Nat → Nat} {A : Option (Int32 × Mem)} {B : Option (Int32 × Mem)} (h1 : FrX X0 X) (h2 : FrY Y0 Y) (h3 : KP c0 c) (h : TRes X Y b e c A B) : TRes X0 Y0 b e c0 A B := by
  rcases h with ⟨X', Y', c', v, g1, g2, g3, g4, g5, g6, g7, g8, g9⟩ | ⟨X', Y', q, v, g1, g2, g3, g4, g5, g6⟩
  · exact Or.inl ⟨X', Y', c', v, g1, g2, g3, g4, g5, g6, KP_tr h3 g7, FrX_tr h1 g8, FrY_tr h2 g9⟩
  · exact Or.inr ⟨X', Y', q, v, g1, g2, g3, g4, FrX_tr h1 g5, FrY_tr h2 g6⟩
theorem text_sim {b : Nat → Nat} {e : Nat} : ∀ m k fu fu2 (X Y : Mem) (c : Nat → Nat) a p, k + m = 14 → m < fu → m + 2 < fu2 → GS X Y b e c a p → TRes X Y b e c (rr_readText_L17 (fun M8 => some ((0 : Int32), M8)) fu (nI k) X) (md_read_L23 0 (fun v3_10 M12 => some (v3_10, M12)) fu2 1 (nI k) Y) := by
  intro m
  induction m with
  | zero =>
    intro k fu fu2 X Y c a p hk hf hf2 h
    obtain ⟨fu, rfl⟩ : ∃ f, fu = f + 1 := ⟨fu - 1, by omega⟩
    obtain ⟨fu2, rfl⟩ : ∃ f, fu2 = f + 1 + 1 := ⟨fu2 - 2, by omega⟩
    obtain rfl : k = 14 := by omega
    have he := h.2.2.1.2.1
    obtain ⟨s1, hs⟩ := GS_skip h
    rw [rr_readText_L17, if_neg (show ¬ nI 14 < 14 by decide), md_read_L23, if_neg (show ¬ (1 : Int32) = 0 by decide), h.2.2.2.2.1, if_pos rfl, s1, bind_s, if_pos rfl]
    unfold md_read_J51
    rw [if_pos (show nI 14 = 14 from rfl), show setA Y p 0 9 = nI p from wr_eq, r_wrong _ hs.2.2.2.2.1, bind_s]
    have hB := BS_B (Y := Y) (TPo_le h.1) (TPo_le h.1)
    obtain ⟨a', a1, a2, a3⟩ := J80_f (p1 := 0) (x2 := 1) (x3 := nI 14) (rec := fun a2 a3 aM => md_read_L23 0 (fun v3_10 M12 => some (v3_10, M12)) (fu2 + 1) a2 a3 aM) (K := fun v3_10 M12 => some (v3_10, M12)) hB (LTx_fr h.2.2.1 FrY_B)
    rw [a2, md_read_L23, if_pos rfl]
    exact Or.inr ⟨X, _, p, _, rfl, rfl, h.1, a3, FrX_rfl, FrY_tr FrY_B FrY_A⟩
  | succ m ih =>
    intro k fu fu2 X Y c a p hk hf hf2 h
    obtain ⟨fu, rfl⟩ : ∃ f, fu = f + 1 := ⟨fu - 1, by omega⟩
    obtain ⟨fu2, rfl⟩ : ∃ f, fu2 = f + 1 + 1 := ⟨fu2 - 2, by omega⟩
    have he := h.2.2.1.2.1
    obtain ⟨s1, hs⟩ := GS_skip h
    rw [rr_readText_L17, if_pos (show nI k < 14 by rw [show (14 : Int32) = nI 14 from rfl, n_lt (by omega) (by omega)]; omega), md_read_L23, if_neg (show ¬ (1 : Int32) = 0 by decide), h.2.2.2.2.1, if_pos rfl, s1, bind_s, if_pos rfl]
    unfold md_read_J51
    rw [if_neg (show ¬ nI k = 14 by rw [show (14 : Int32) = nI 14 from rfl, n_eq (by omega) (by omega)]; omega), if_pos rfl]
    rcases line_sim hs with ⟨X', Y', c', a', p', g1, g2, g3, g4, g5, g6⟩ | ⟨X', Y', q, g1, g2, g3, g4, g5, g6⟩
    · obtain ⟨t1, ts⟩ := GS_skip g3
      have hl := KD_le b e p'
      have hw := k_thing g3.1
      have hle := TPo_le g3.1
      have hL2 := ts.2.2.1
      have fY : FrY Y (setA Y' p') := FrY_tr FrY_A (FrY_tr g6 FrY_A)
      rw [g1, g2, bnd_s, bind_s, if_neg (show ¬ (1 : Int32) = 0 by decide), hw, bind_s]
      unfold md_read_J80
      rw [t1, bind_s, ts.2.2.2.2.1, if_pos rfl, show setA Y' p' 0 9 = nI p' from wr_eq, hL2.1, show (1 : Int32) = nI 1 from rfl, teq_n (by omega) (by omega)]
      by_cases q : p' = e
      · rw [if_pos (by rw [q]; exact decide_eq_true (KD_end (Nat.le_refl e))), if_pos (by rw [q])]
        show TRes X Y b e c _ (md_read_L23 0 (fun v3_10 M12 => some (v3_10, M12)) (fu2 + 1) 0 (nI k + nI 1) (setA Y' p'))
        rw [md_read_L23, if_pos rfl]
        exact Or.inl ⟨X', _, c', _, rfl, rfl, g3.2.1, ts.2.2.2.1, g3.2.2.2.2.2.2.2.2, ts.2.2.2.2.1, g4, g5, fY⟩
      · have q1 : ¬ KD b e p' = 1 := fun h1 => by have := KD_1 h1; omega
        rw [if_neg (by rw [decide_eq_false q1]; decide), if_neg (by rw [n_eq (by omega) (by omega)]; exact q)]
        have sg := r_sign (ch := 59) hL2 ts.2.2.2.2.2.1 (by omega) (by omega)
        rw [ts.2.2.2.2.2.2.2.1, show setA (setA Y' p') p' = setA Y' p' from wr_wr] at sg
        rw [show md_isSign 59 (setA Y' p') = _ from sg, bnd_s]
        obtain ⟨k1, k2⟩ := sign_KD (b := b) (e := e) (p := p') S59
        by_cases q2 : KD b e p' = 24
        · obtain ⟨u1, u2⟩ := take_yes g3 (w := 24) (by omega) (by omega) q2
          have hb := k1.mpr q2
          rw [show tp_take 24 X' = _ from u1, bnd_s, if_neg (show ¬ nI 1 = 0 by decide), ifb_t (decide_eq_true hb), lt1_ap, show setA Y' p' 0 9 = nI p' from wr_eq, show nI p' + nI 1 = nI (p' + 1) from n_add _ _]
          have e1 : wr (setA Y' p') 0 9 (nI (p' + 1)) = setA Y' (beh b e p') := by
            rw [k2 hb]
            exact wr_wr
          rw [e1, show nI k + nI 1 = nI (k + 1) from n_add _ _]
          exact TRes_tr (FrX_tr g5 FrX_mv) (FrY_tr FrY_A (FrY_tr g6 FrY_A)) g4 (ih (k + 1) fu (fu2 + 1) _ _ _ _ _ (by omega) (by omega) (by omega) u2)
        · rw [show tp_take 24 X' = _ from k_take_no g3.1 (w := 24) (by omega) q2, bnd_s, if_pos (show nI 0 = 0 from rfl), ifb_f (decide_eq_false fun h => q2 (k1.mp h)), show setA Y' p' 0 9 = nI p' from wr_eq, r_wrong _ ts.2.2.2.2.1, bind_s]
          have hB := BS_B (Y := Y') hle hle
          show TRes X Y b e c _ (md_read_L23 0 (fun v3_10 M12 => some (v3_10, M12)) (fu2 + 1) (nI 1) (nI k + nI 1) (wr (setA Y' p') 0 10 (nI p')))
          rw [md_read_L23, if_neg (show ¬ nI 1 = 0 by decide), if_neg (BS_f hB he)]
          exact Or.inr ⟨X', _, p', _, rfl, rfl, g3.1, hB, g5, FrY_tr FrY_A (FrY_tr g6 FrY_B)⟩
    · rw [g1, g2, bnd_s, bind_s, if_pos rfl]
      obtain ⟨a', a1, a2, a3⟩ := J80_f (p1 := 0) (x2 := 1) (x3 := nI k) (rec := fun a2 a3 aM => md_read_L23 0 (fun v3_10 M12 => some (v3_10, M12)) (fu2 + 1) a2 a3 aM) (K := fun v3_10 M12 => some (v3_10, M12)) g4 (LTx_fr hs.2.2.1 g6)
      rw [a2, md_read_L23, if_pos rfl]
      exact Or.inr ⟨X', _, q, _, rfl, rfl, g3, a3, g5, FrY_tr FrY_A (FrY_tr g6 FrY_A)⟩
theorem read_sim {X Y : Mem} {b : Nat → Nat} {e a p : Nat} {c : Nat → Nat} (h : GS X Y b e c a p) : TRes X Y b e c (rr_readText X) (md_read 0 Y) := by
  have he := h.2.2.1.2.1
  have hl := KD_le b e p
  obtain ⟨s1, hs⟩ := GS_skip h
  have hle := TPo_le h.1
  unfold rr_readText md_read
  rw [k_thing h.1, bind_s, s1, bind_s, show (1 : Int32) = nI 1 from rfl, teq_n (by omega) (by omega), show setA Y p 0 9 = nI p from wr_eq, hs.2.2.1.1]
  unfold md_read_J20
  by_cases q : p < e
  · have q1 : ¬ KD b e p = 1 := fun h1 => by have := KD_1 h1; omega
    rw [if_neg (by rw [decide_eq_false q1]; decide), if_pos (by rw [n_lt (by omega) (by omega)]; exact q)]
    exact TRes_tr FrX_rfl FrY_A KP_rfl (text_sim 14 0 FU FU X (setA Y p) c p p rfl (by rw [FUe]; omega) (by rw [FUe]; omega) hs)
  · rw [if_pos (decide_eq_true (KD_end (by omega))), if_neg (by rw [n_lt (by omega) (by omega)]; exact q), show FU = 999999 + 1 from rfl, md_read_L23, if_pos rfl]
    exact Or.inl ⟨X, _, c, _, rfl, rfl, h.2.1, hs.2.2.2.1, h.2.2.2.2.2.2.2.2, hs.2.2.2.2.1, KP_rfl, FrX_rfl, FrY_A⟩
