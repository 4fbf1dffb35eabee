/-! the fair: a minute; the call -/
def bkR (t bk br : Nat) : Prop := (bk = br ∨ (bk ≤ t ∧ br ≤ t)) ∧ bk ≤ 1000 ∧ br ≤ 1000
theorem FI_next {X Y : Mem} {c : Nat → Nat} {t w : Nat} {x7 x8 x9 x10 x11 : Int32} (h : FI X Y c t w x7 x8 x9 x10 x11) : FI X Y c (t + 1) w x7 x8 x9 x10 x11 := ⟨h.1, h.2.1, fun j hj => OK_mono (h.2.2.1 j hj) (Nat.le_succ t), h.2.2.2⟩
theorem minS {X Y : Mem} {c : Nat → Nat} {T t w f bk br : Nat} {x7 x8 x9 x10 x11 p1 p2 p3 p5 q1 q2 q3 : Int32} (hb : WB T c) (hT : T ≤ 520) (h : FI X Y c t w x7 x8 x9 x10 x11) (ht : t ≤ 600) (hf : 1 ≤ f ∧ f ≤ 99) (hk : bkR t bk br) {rec : Int32 → Int32 → Mem → Option Mem} {K : Mem → Option Mem} {rec2 : Int32 → Int32 → Int32 → Int32 → Int32 → Int32 → Int32 → Int32 → Mem → Option (Int32 × Mem)} {K2 : Int32 → Int32 → Int32 → Int32 → Int32 → Int32 → Mem → Option (Int32 × Mem)} : ∃ (w' bk' br' : Nat) (X' Y' : Mem) (x7' x9' x10' x11' : Int32), mk_hold_J46 q1 q2 q3 (nI f) rec K (nI bk) (nI t) X = rec (nI bk') (nI (t + 1)) X' ∧ md_fair_J156 p1 p2 p3 (nI f) p5 rec2 K2 (nI w) x7 x8 x9 x10 x11 (nI br) (nI t) Y = rec2 (nI w') x7' x8 x9' x10' x11' (nI br') (nI (t + 1)) Y' ∧ FI X' Y' c (t + 1) w' x7' x8 x9' x10' x11' ∧ bkR (t + 1) bk' br' ∧ FX2 X X' ∧ FY2 Y Y' := by
  obtain ⟨k1, k2, k3⟩ := hk
  have h7 := h.2.1
  have hw := h.1
  have et : nI t + 1 = nI (t + 1) := n_add t 1
  by_cases q : t < br
  · refine ⟨w, bk, br, X, Y, x7, x9, x10, x11, ?_, ?_, FI_next h, ⟨by omega, k2, k3⟩, fun _ _ _ _ _ => rfl, fun _ _ _ => rfl⟩
    · unfold mk_hold_J46
      rw [if_pos (show nI t < nI bk by rw [n_lt (by omega) (by omega)]; omega), et]
    · unfold md_fair_J156
      rw [if_pos (show nI t < nI br by rw [n_lt (by omega) (by omega)]; omega), ← et]
  · have n1 : ¬ nI t < nI bk := by rw [n_lt (by omega) (by omega)]; omega
    have n2 : ¬ nI t < nI br := by rw [n_lt (by omega) (by omega)]; omega
    by_cases q0 : w = 0
    · refine ⟨w, bk, br, X, Y, x7, x9, x10, x11, ?_, ?_, FI_next h, ⟨by omega, k2, k3⟩, fun _ _ _ _ _ => rfl, fun _ _ _ => rfl⟩
      · unfold mk_hold_J46
        rw [if_neg n1, h7, if_neg (by rw [q0]; decide), et]
      · unfold md_fair_J156
        rw [if_neg n2, if_pos (by rw [q0]; rfl), ← et]
    · obtain ⟨e, w', X', Y', x7', x9', x10', x11', x12', e1, e2, e3, e4, e5, e6, e7⟩ := tripS (x12 := nI br) (p1 := p1) (p2 := p2) (p3 := p3) (p5 := p5) (rec := rec2) (K := K2) hb hT h (by omega) ht hf n2
      have cls : mk_hold_J46 q1 q2 q3 (nI f) rec K (nI bk) (nI t) X = rec (nI (t + e)) (nI (t + 1)) X' := by
        unfold mk_hold_J46
        rw [if_neg n1, h7, if_pos (show 0 < nI w by rw [show (0 : Int32) = nI 0 from rfl, n_lt (by omega) (by omega)]; omega), e2, bnd_s, n_add, et]
      rcases e5 with ⟨rfl, rfl⟩ | rfl
      · exact ⟨w', t + 0, br, X', Y', x7', x9', x10', x11', cls, e3, FI_next e4, ⟨by omega, by omega, k3⟩, e6, e7⟩
      · exact ⟨w', t + e, t + e, X', Y', x7', x9', x10', x11', cls, e3, FI_next e4, ⟨by omega, by omega, by omega⟩, e6, e7⟩
theorem FI_seed {X Y : Mem} {c : Nat → Nat} {t w : Nat} {x7 x8 x9 x10 x11 s : Int32} (h : FI X Y c t w x7 x8 x9 x10 x11) : FI (wr X 89 8 s) (wr Y 0 27 s) c t w x7 x8 x9 x10 x11 := by
  obtain ⟨hw, h7, hO, h8, h9, h10, ⟨lg, hl, hl2, h11⟩, h12, h13, hM, hE, hR⟩ := h
  exact ⟨hw, by rw [wr_ne (by omega), h7], fun j hj => OK_cong (hO j hj) (wr_ne (by omega)) (wr_ne (by omega)) (wr_ne (by omega)) (wr_ne (by omega)), by rw [wr_eq, wr_eq], by rw [wr_ne (by omega), h9], by rw [wr_ne (by omega), h10], ⟨lg, hl, hl2, by rw [wr_ne (by omega), h11]⟩, by rw [wr_ne (by omega), h12], by rw [wr_ne (by omega), h13], MVk hM fun r i q => wr_ne (by omega), EY_fr hE fun i => wr_ne (by omega), RuX_fr hR fun r i q => wr_ne (by omega)⟩
theorem holdS {c : Nat → Nat} {T mn ch f : Nat} {p1 p5 q1 : Int32} (hb : WB T c) (hT : T ≤ 520) (hm : mn ≤ 600) (hc : ch ≤ 100) (hf : 1 ≤ f ∧ f ≤ 99) {K : Mem → Option Mem} {K2 : Int32 → Int32 → Int32 → Int32 → Int32 → Int32 → Mem → Option (Int32 × Mem)} : ∀ m t fu fu2 (X Y : Mem) w bk br x7 x8 x9 x10 x11, t + m = mn → m < fu → m < fu2 → FI X Y c t w x7 x8 x9 x10 x11 → bkR t bk br → ∃ (X' Y' : Mem) (w' : Nat) (x7' x8' x9' x10' x11' : Int32), mk_hold_L11 q1 (nI mn) (nI ch) (nI f) K fu (nI bk) (nI t) X = K X' ∧ md_fair_L93 p1 (nI mn) (nI ch) (nI f) p5 K2 fu2 (nI w) x7 x8 x9 x10 x11 (nI br) (nI t) Y = K2 (nI w') x7' x8' x9' x10' x11' Y' ∧ FI X' Y' c mn w' x7' x8' x9' x10' x11' ∧ FX2 X X' ∧ FY2 Y Y' := by
  intro m
  induction m with
  | zero =>
    intro t fu fu2 X Y w bk br x7 x8 x9 x10 x11 ht h1 h2 h hk
    obtain ⟨fu, rfl⟩ : ∃ f, fu = f + 1 := ⟨fu - 1, by omega⟩
    obtain ⟨fu2, rfl⟩ : ∃ f, fu2 = f + 1 := ⟨fu2 - 1, by omega⟩
    obtain rfl : t = mn := by omega
    refine ⟨X, Y, w, x7, x8, x9, x10, x11, ?_, ?_, h, fun _ _ _ _ _ => rfl, fun _ _ _ => rfl⟩
    · rw [mk_hold_L11, if_neg (by rw [n_lt (by omega) (by omega)]; omega)]
    · rw [md_fair_L93, if_neg (by rw [n_lt (by omega) (by omega)]; omega)]
  | succ m ih =>
    intro t fu fu2 X Y w bk br x7 x8 x9 x10 x11 ht h1 h2 h hk
    obtain ⟨fu, rfl⟩ : ∃ f, fu = f + 1 := ⟨fu - 1, by omega⟩
    obtain ⟨fu2, rfl⟩ : ∃ f, fu2 = f + 1 := ⟨fu2 - 1, by omega⟩
    have h8 := h.2.2.2.1
    have hd1 := dv_lt (x := nxS (X 89 8))
    have hA := FI_seed (s := nxS (X 89 8)) h
    -- from the state behind the draws on
    have go : ∀ (X2 Y2 : Mem) (w2 : Nat) (x82 : Int32), FI X2 Y2 c t w2 x7 x82 x9 x10 x11 → FX2 X X2 → FY2 Y Y2 → ∀ (A : Option Mem) (B : Option (Int32 × Mem)), A = mk_hold_J46 q1 (nI mn) (nI ch) (nI f) (fun a5 a6 aM => mk_hold_L11 q1 (nI mn) (nI ch) (nI f) K fu a5 a6 aM) K (nI bk) (nI t) X2 → B = md_fair_J156 p1 (nI mn) (nI ch) (nI f) p5 (fun a6 a7 a8 a9 a10 a11 a12 a13 aM => md_fair_L93 p1 (nI mn) (nI ch) (nI f) p5 K2 fu2 a6 a7 a8 a9 a10 a11 a12 a13 aM) K2 (nI w2) x7 x82 x9 x10 x11 (nI br) (nI t) Y2 → ∃ (X' Y' : Mem) (w' : Nat) (x7' x8' x9' x10' x11' : Int32), A = K X' ∧ B = K2 (nI w') x7' x8' x9' x10' x11' Y' ∧ FI X' Y' c mn w' x7' x8' x9' x10' x11' ∧ FX2 X X' ∧ FY2 Y Y' := fun X2 Y2 w2 x82 h2 fx fy A B eA eB => by
      obtain ⟨w', bk', br', X3, Y3, x7', x9', x10', x11', m1, m2, m3, m4, m5, m6⟩ := minS (p1 := p1) (p2 := nI mn) (p3 := nI ch) (p5 := p5) (q1 := q1) (q2 := nI mn) (q3 := nI ch) (rec := fun a5 a6 aM => mk_hold_L11 q1 (nI mn) (nI ch) (nI f) K fu a5 a6 aM) (K := K) (rec2 := fun a6 a7 a8 a9 a10 a11 a12 a13 aM => md_fair_L93 p1 (nI mn) (nI ch) (nI f) p5 K2 fu2 a6 a7 a8 a9 a10 a11 a12 a13 aM) (K2 := K2) hb hT h2 (by omega) hf hk
      obtain ⟨X', Y', w4, y7, y8, y9, y10, y11, i1, i2, i3, i4, i5⟩ := ih (t + 1) fu fu2 X3 Y3 w' bk' br' x7' x82 x9' x10' x11' (by omega) (by omega) (by omega) m3 m4
      refine ⟨X', Y', w4, y7, y8, y9, y10, y11, ?_, ?_, i3, FX2_tr (FX2_tr fx m5) i4, FY2_tr (FY2_tr fy m6) i5⟩
      · rw [eA, m1]
        exact i1
      · rw [eB, m2]
        exact i2
    have fx1 : FX2 X (wr X 89 8 (nxS (X 89 8))) := fun r i a _ _ => wr_ne (by omega)
    have fy1 : FY2 Y (wr Y 0 27 (nxS (X 89 8))) := fun r i a => wr_ne (by omega)
    rw [mk_hold_L11, if_pos (show nI t < nI mn by rw [n_lt (by omega) (by omega)]; omega), k_draw, bnd_s, show (100 : Int32) = nI 100 from rfl, n_rem (by omega) (by omega) (by omega), md_fair_L93, if_pos (show nI t < nI mn by rw [n_lt (by omega) (by omega)]; omega), show (100 : Int32) = nI 100 from rfl, r_draw (by omega) (by omega), bnd_s, ← h8]
    by_cases q : dv (nxS (X 89 8)) % 100 < ch
    · have q' : nI (dv (nxS (X 89 8)) % 100) < nI ch := by rw [n_lt (by omega) (by omega)]; exact q
      have hd2 := dv_lt (x := nxS (nxS (X 89 8)))
      have e27 : wr Y 0 27 (nxS (X 89 8)) 0 27 = nxS (X 89 8) := wr_eq
      rw [if_pos q', if_pos q', k_draw, bnd_s, wr_eq, show (9 : Int32) = nI 9 from rfl, n_rem (by omega) (by omega) (by omega), r_draw (by omega) (by omega), bnd_s, e27, show (10 : Int32) = nI 10 from rfl, show nI (dv (nxS (nxS (X 89 8))) % 9) + 1 = nI (dv (nxS (nxS (X 89 8))) % 9 + 1) from n_add _ _, n_mul]
      generalize hs2 : nxS (nxS (X 89 8)) = s2 at *
      have hB : FI (wr (wr X 89 8 (nxS (X 89 8))) 89 8 s2) (wr (wr Y 0 27 (nxS (X 89 8))) 0 27 s2) c t w x7 x8 x9 x10 x11 := FI_seed hA
      have fx2 : FX2 X (wr (wr X 89 8 (nxS (X 89 8))) 89 8 s2) := fun r i a _ _ => by rw [wr_ne (by omega), wr_ne (by omega)]
      have fy2 : FY2 Y (wr (wr Y 0 27 (nxS (X 89 8))) 0 27 s2) := fun r i a => by rw [wr_ne (by omega), wr_ne (by omega)]
      generalize wr (wr X 89 8 (nxS (X 89 8))) 89 8 s2 = X2 at *
      generalize wr (wr Y 0 27 (nxS (X 89 8))) 0 27 s2 = Y2 at *
      obtain ⟨hw, h7, hO, g8, g9, g10, ⟨lg, hl, hl2, g11⟩, g12, g13, hM, hE, hR⟩ := id hB
      by_cases q4 : w = 40
      · have hc2 : FI (wr X2 89 10 (x8 + 1)) Y2 c t w x7 (x8 + 1) x9 x10 x11 := ⟨hw, by rw [wr_ne (by omega), h7], fun j hj => OK_cong (hO j hj) (wr_ne (by omega)) (wr_ne (by omega)) rfl rfl, by rw [wr_ne (by omega), g8], by rw [wr_ne (by omega), g9], wr_eq, ⟨lg, hl, hl2, by rw [wr_ne (by omega), g11]⟩, by rw [wr_ne (by omega), g12], by rw [wr_ne (by omega), g13], MVk hM fun r i q => wr_ne (by omega), hE, RuX_fr hR fun r i q => wr_ne (by omega)⟩
        refine go _ Y2 w (x8 + 1) hc2 (FX2_tr fx2 fun r i a _ _ => wr_ne (by omega)) fy2 _ _ ?_ ?_
        · unfold mk_comeOne
          rw [h7, if_neg (show ¬ nI w < 40 by rw [show (40 : Int32) = nI 40 from rfl, n_lt (by omega) (by omega)]; omega), g10, lt1_ap, bind_s]
        · rw [if_pos (by rw [q4]; rfl)]
      · have hc2 : FI (wr (wr (wr X2 90 w (nI t)) 91 w (nI (10 * (dv s2 % 9 + 1)))) 89 7 (nI (w + 1))) (wr (wr Y2 13 w (nI (10 * (dv s2 % 9 + 1)))) 14 w (nI t)) c t (w + 1) x7 x8 x9 x10 x11 := by
          refine ⟨by omega, wr_eq, fun j hj => ?_, by rw [wr_ne (by omega), wr_ne (by omega), wr_ne (by omega), wr_ne (by omega), wr_ne (by omega), g8], by rw [wr_ne (by omega), wr_ne (by omega), wr_ne (by omega), g9], by rw [wr_ne (by omega), wr_ne (by omega), wr_ne (by omega), g10], ⟨lg, hl, hl2, by rw [wr_ne (by omega), wr_ne (by omega), wr_ne (by omega), g11]⟩, by rw [wr_ne (by omega), wr_ne (by omega), wr_ne (by omega), g12], by rw [wr_ne (by omega), wr_ne (by omega), wr_ne (by omega), g13], MVk hM fun r i q => by rw [wr_ne (by omega), wr_ne (by omega), wr_ne (by omega)], EY_fr hE fun i => by rw [wr_ne (by omega), wr_ne (by omega)], RuX_fr hR fun r i q => by rw [wr_ne (by omega), wr_ne (by omega), wr_ne (by omega)]⟩
          by_cases qj : j = w
          · subst qj
            exact ⟨t, 10 * (dv s2 % 9 + 1), Nat.le_refl _, by omega, by omega, by rw [wr_ne (by omega), wr_ne (by omega), wr_eq], wr_eq, by rw [wr_ne (by omega), wr_eq], by rw [wr_ne (by omega), wr_eq]⟩
          · exact OK_cong (hO j (by omega)) (by rw [wr_ne (by omega), wr_ne (by omega), wr_ne (by omega)]) (by rw [wr_ne (by omega), wr_ne (by omega), wr_ne (by omega)]) (by rw [wr_ne (by omega), wr_ne (by omega)]) (by rw [wr_ne (by omega), wr_ne (by omega)])
        refine go _ _ (w + 1) x8 hc2 (FX2_tr fx2 fun r i a _ _ => by rw [wr_ne (by omega), wr_ne (by omega), wr_ne (by omega)]) (FY2_tr fy2 fun r i a => by rw [wr_ne (by omega), wr_ne (by omega)]) _ _ ?_ ?_
        · unfold mk_comeOne
          rw [h7, if_pos (show nI w < 40 by rw [show (40 : Int32) = nI 40 from rfl, n_lt (by omega) (by omega)]; omega), chk_in (by omega) (by omega), n_cl (by omega), lt1_ap, wr_ne (by omega), h7, chk_in (by omega) (by omega), n_cl (by omega), lt1_ap, lt1_ap, wr_ne (by omega), wr_ne (by omega), h7, bind_s, show nI w + 1 = nI (w + 1) from n_add _ _]
        · rw [if_neg (show ¬ nI w = 40 by rw [show (40 : Int32) = nI 40 from rfl, n_eq (by omega) (by omega)]; exact q4), chk_in (by omega) (by omega), n_cl (by omega), lt1_ap, chk_in (by omega) (by omega), lt1_ap, show nI w + 1 = nI (w + 1) from n_add _ _]
    · have q' : ¬ nI (dv (nxS (X 89 8)) % 100) < nI ch := by rw [n_lt (by omega) (by omega)]; exact q
      rw [if_neg q', if_neg q']
      exact go _ _ w x8 hA fx1 fy1 _ _ rfl rfl
theorem rng (p : Int32) {N : Nat} (hN : N < 2147483648) : p < 0 ∨ nI N < p ∨ ∃ k, k ≤ N ∧ p = nI k := by
  by_cases c1 : p < 0
  · exact Or.inl c1
  by_cases c2 : nI N < p
  · exact Or.inr (Or.inl c2)
  refine Or.inr (Or.inr ?_)
  rw [Int32.lt_iff_toInt_lt, show (0 : Int32).toInt = 0 from rfl] at c1
  rw [Int32.lt_iff_toInt_lt, n_toI hN] at c2
  refine ⟨p.toInt.toNat, by omega, ?_⟩
  apply Int32.toInt_inj.mp
  rw [n_toI (by omega)]
  omega
theorem m_fair {T : Nat} {X Y : Mem} {c : Nat → Nat} (h : SV T X Y c) (hT : T ≤ 520) (hru : RuX 58 X c) (p1 p2 p3 p4 p5 : Int32) : ∃ e v X' u Y', rf_fair p1 p2 p3 p4 p5 X = some (e, v, X') ∧ md_fair p1 p2 p3 p4 p5 Y = some (u, Y') ∧ ((e = 0 ∧ Y' 0 0 = 0 ∧ v = u) ∨ (¬ e = 0 ∧ e = 1 ∧ Y' 0 0 = 1) ∨ (¬ e = 0 ∧ ¬ e = 1 ∧ e = 4 ∧ Y' 0 0 = 2)) ∧ LV X' c ∧ Z0 X' ∧ (∀ r i, r < 75 → ¬ r = 62 → ¬ (r = 58 ∧ 6 ≤ i) → X' r i = X r i) ∧ (∀ r i, ¬ (r = 5 ∨ (r = 0 ∧ (i = 0 ∨ i = 7 ∨ i = 8 ∨ i = 9 ∨ i = 11 ∨ i = 13 ∨ i = 27)) ∨ r = 13 ∨ r = 14 ∨ r = 15) → Y' r i = Y r i) := by
  have hLV := SV_LV h hT
  obtain ⟨hR, hB, hw, hb, hE, hz⟩ := id h
  have i1 : ¬ (1 : Int32) = 0 := by decide
  have bad : ∀ (e : Nat) (s : Int32), ((¬ e = 0 ∧ e = 1 ∧ s = 1) ∨ (¬ e = 0 ∧ ¬ e = 1 ∧ e = 4 ∧ s = 2)) → 0 < s → rf_fair p1 p2 p3 p4 p5 X = some (e, 0, X) → md_fair p1 p2 p3 p4 p5 Y = md_fair_J52 p1 p2 p3 p4 p5 s Y → ∃ e v X' u Y', rf_fair p1 p2 p3 p4 p5 X = some (e, v, X') ∧ md_fair p1 p2 p3 p4 p5 Y = some (u, Y') ∧ ((e = 0 ∧ Y' 0 0 = 0 ∧ v = u) ∨ (¬ e = 0 ∧ e = 1 ∧ Y' 0 0 = 1) ∨ (¬ e = 0 ∧ ¬ e = 1 ∧ e = 4 ∧ Y' 0 0 = 2)) ∧ LV X' c ∧ Z0 X' ∧ (∀ r i, r < 75 → ¬ r = 62 → ¬ (r = 58 ∧ 6 ≤ i) → X' r i = X r i) ∧ (∀ r i, ¬ (r = 5 ∨ (r = 0 ∧ (i = 0 ∨ i = 7 ∨ i = 8 ∨ i = 9 ∨ i = 11 ∨ i = 13 ∨ i = 27)) ∨ r = 13 ∨ r = 14 ∨ r = 15) → Y' r i = Y r i) := fun e s hs hs0 hA hC => by
    refine ⟨e, 0, X, 0, wr Y 0 0 s, hA, ?_, Or.inr ?_, hLV, hz, fun _ _ _ _ _ => rfl, fun r i q => wr_ne (by omega)⟩
    · rw [hC]
      unfold md_fair_J52
      rw [lt1_ap, wr_eq, if_pos hs0]
    · rw [wr_eq]
      exact hs
  have isI : ∀ (p : Int32) (lo N : Nat), lo ≤ N → N < 2147483648 → md_isIn p (nI lo) (nI N) Y = if p < nI lo then some 0 else if nI N < p then some 0 else some 1 := fun p lo N _ _ => rfl
  have rf0 : rf_fair p1 p2 p3 p4 p5 X = (if p2 < nI 0 then some (1, 0, X) else (if nI 600 < p2 then some (1, 0, X) else (if p3 < nI 0 then some (1, 0, X) else (if nI 100 < p3 then some (1, 0, X) else (if p4 < nI 1 then some (1, 0, X) else (if nI 99 < p4 then some (1, 0, X) else (if p5 < nI 0 then some (4, 0, X) else (if p5 < nI 6 then (mv_prepare X).bind fun M1 => (mk_hold (p1) (p2) (p3) (p4) M1).bind fun M2 => (mk_answer (p5) M2).bind fun v3 => some (0, v3, M2) else some (4, 0, X))))))))) := rfl
  have md0 : md_fair p1 p2 p3 p4 p5 Y = (md_isIn (p2) (nI 0) (nI 600) Y).bind fun v1 => (if v1 = 0 then md_fair_J33 p1 p2 p3 p4 p5 Y else (md_isIn (p3) (nI 0) (nI 100) Y).bind fun v32 => (if v32 = 0 then md_fair_J33 p1 p2 p3 p4 p5 Y else (md_isIn (p4) (nI 1) (nI 99) Y).bind fun v33 => (if v33 = 0 then md_fair_J33 p1 p2 p3 p4 p5 Y else (md_isIn (p5) (nI 0) (nI 5) Y).bind fun v34 => (if v34 = 0 then md_fair_J52 p1 p2 p3 p4 p5 ((2 : Int32)) Y else md_fair_J52 p1 p2 p3 p4 p5 ((0 : Int32)) Y)))) := rfl
  have b1 := bad 1 1 (Or.inl ⟨by decide, rfl, rfl⟩) (by decide)
  have b2 := bad 4 2 (Or.inr ⟨by decide, by decide, rfl, rfl⟩) (by decide)
  rw [isI _ 0 600 (by omega) (by omega), isI _ 0 100 (by omega) (by omega), isI _ 1 99 (by omega) (by omega), isI _ 0 5 (by omega) (by omega)] at md0
  by_cases c1 : p2 < nI 0
  · exact b1 (by rw [rf0, if_pos c1]) (by rw [md0, if_pos c1, bind_s, if_pos rfl]; rfl)
  rw [if_neg c1] at rf0 md0
  by_cases c2 : nI 600 < p2
  · exact b1 (by rw [rf0, if_pos c2]) (by rw [md0, if_pos c2, bind_s, if_pos rfl]; rfl)
  rw [if_neg c2] at rf0 md0
  rw [bind_s, if_neg i1] at md0
  by_cases c3 : p3 < nI 0
  · exact b1 (by rw [rf0, if_pos c3]) (by rw [md0, if_pos c3, bind_s, if_pos rfl]; rfl)
  rw [if_neg c3] at rf0 md0
  by_cases c4 : nI 100 < p3
  · exact b1 (by rw [rf0, if_pos c4]) (by rw [md0, if_pos c4, bind_s, if_pos rfl]; rfl)
  rw [if_neg c4] at rf0 md0
  rw [bind_s, if_neg i1] at md0
  by_cases c5 : p4 < nI 1
  · exact b1 (by rw [rf0, if_pos c5]) (by rw [md0, if_pos c5, bind_s, if_pos rfl]; rfl)
  rw [if_neg c5] at rf0 md0
  by_cases c6 : nI 99 < p4
  · exact b1 (by rw [rf0, if_pos c6]) (by rw [md0, if_pos c6, bind_s, if_pos rfl]; rfl)
  rw [if_neg c6] at rf0 md0
  rw [bind_s, if_neg i1] at md0
  by_cases c7 : p5 < nI 0
  · exact b2 (by rw [rf0, if_pos c7]) (by rw [md0, if_pos c7, bind_s, if_pos rfl])
  rw [if_neg c7] at rf0 md0
  by_cases c8 : nI 5 < p5
  · refine b2 ?_ (by rw [md0, if_pos c8, bind_s, if_pos rfl])
    rw [rf0, if_neg ?_]
    rw [Int32.lt_iff_toInt_lt, n_toI (by omega)] at c8 ⊢
    omega
  rw [if_neg c8, bind_s, if_neg i1] at md0
  obtain ⟨mn, hm, rfl⟩ : ∃ k, k ≤ 600 ∧ p2 = nI k := by
    rcases rng p2 (N := 600) (by omega) with q | q | q
    · exact absurd q c1
    · exact absurd q c2
    · exact q
  obtain ⟨ch, hc, rfl⟩ : ∃ k, k ≤ 100 ∧ p3 = nI k := by
    rcases rng p3 (N := 100) (by omega) with q | q | q
    · exact absurd q c3
    · exact absurd q c4
    · exact q
  obtain ⟨f, hf, rfl⟩ : ∃ k, (1 ≤ k ∧ k ≤ 99) ∧ p4 = nI k := by
    rcases rng p4 (N := 99) (by omega) with q | q | ⟨k, q, rfl⟩
    · refine absurd ?_ c5
      rw [Int32.lt_iff_toInt_lt] at q ⊢
      rw [n_toI (by omega)]
      rw [show (0 : Int32).toInt = 0 from rfl] at q
      omega
    · exact absurd q c6
    · rw [n_lt (by omega) (by omega)] at c5
      exact ⟨k, ⟨by omega, q⟩, rfl⟩
  obtain ⟨wh, hwh, rfl⟩ : ∃ k, k ≤ 5 ∧ p5 = nI k := by
    rcases rng p5 (N := 5) (by omega) with q | q | q
    · exact absurd q c7
    · exact absurd q c8
    · exact q
  rw [if_pos (by rw [n_lt (by omega) (by omega)]; omega)] at rf0
  obtain ⟨X1, a1, a2, a3, a4, a5⟩ := k_prepare hLV hz
  rw [a1, bind_s] at rf0
  obtain ⟨X2, hX2, fX⟩ : ∃ X2, mk_begin p1 X1 = some X2 ∧ (FI X2 (wr (wr Y 0 0 0) 0 27 p1) c 0 0 0 0 0 0 0 ∧ ∀ r i, ¬ r = 89 → X2 r i = X1 r i) := by
    refine ⟨_, rfl, ⟨by omega, ?_, fun j hj => absurd hj (by omega), ?_, ?_, ?_, ⟨0, by omega, rfl, ?_⟩, ?_, ?_, MVk a2 fun r i q => ?_, EY_fr hE fun i => ?_, RuX_fr hru fun r i q => ?_⟩, fun r i q => ?_⟩
    · simp (disch := omega) only [wr_ne, wr_eq]
      rfl
    · simp (disch := omega) only [wr_ne, wr_eq]
    · simp (disch := omega) only [wr_ne, wr_eq]
    · simp (disch := omega) only [wr_ne, wr_eq]
    · simp (disch := omega) only [wr_ne, wr_eq]
      rfl
    · simp (disch := omega) only [wr_ne, wr_eq]
    · simp (disch := omega) only [wr_ne, wr_eq]
    · simp (disch := omega) only [wr_ne]
    · simp (disch := omega) only [wr_ne]
    · simp (disch := omega) only [wr_ne]
      exact a5 _ _ (by omega)
    · simp (disch := omega) only [wr_ne]
  obtain ⟨fX, fX2⟩ := fX
  obtain ⟨X3, Y3, w', x7, x8, x9, x10, x11, g1, g2, g3, g4, g5⟩ := holdS (p1 := p1) (p5 := nI wh) (q1 := p1) hb hT hm hc hf (K := fun M10 => some M10) (K2 := fun v6_29 v7_29 v8_29 v9_29 v10_29 v11_29 M31 => (if nI wh = 0 then some (v7_29, M31) else (if nI wh = (1 : Int32) then some (v6_29, M31) else (if nI wh = (2 : Int32) then some (v8_29, M31) else (if nI wh = (3 : Int32) then some (v9_29, M31) else (if nI wh = (4 : Int32) then some (v10_29, M31) else some (v11_29, M31))))))) mn 0 FU FU X2 (wr (wr Y 0 0 0) 0 27 p1) 0 0 0 0 0 0 0 0 (by omega) (by rw [FUe]; omega) (by rw [FUe]; omega) fX ⟨Or.inl rfl, by omega, by omega⟩
  have cls : mk_hold p1 (nI mn) (nI ch) (nI f) X1 = some X3 := by
    unfold mk_hold
    rw [hX2, bind_s]
    exact g1
  obtain ⟨e0, e1, e2, e3, e4, e5, ⟨lg, e6, e7, e8⟩, e9, e10, e11, e12, e13⟩ := g3
  have h00 : Y3 0 0 = 0 := by rw [g5 _ _ (by omega), wr_ne (by omega), wr_eq]
  have fr : ∀ r i, r < 75 → ¬ r = 62 → ¬ (r = 58 ∧ 6 ≤ i) → X3 r i = X r i := fun r i a b d => by rw [g4 r i (by omega) b d, fX2 r i (by omega), a5 r i (by omega)]
  have frA : ∀ r i, 75 ≤ r → r < 89 → X3 r i = X1 r i := fun r i a b => by rw [g4 r i b (by omega) (by omega), fX2 r i (by omega)]
  have hL3 : LV X3 c := ⟨XR_cong hR fun r i a d => fr r i (by omega) (by omega) (by omega), XB_cong hB fun r i a d => fr r i (by omega) (by omega) (by omega), hw, T, hT, hb⟩
  have hZ3 : Z0 X3 := ⟨by rw [frA _ _ (by omega) (by omega)]; exact a4.1, by rw [frA _ _ (by omega) (by omega)]; exact a4.2.1, by rw [frA _ _ (by omega) (by omega)]; exact a4.2.2⟩
  rw [cls, bind_s] at rf0
  unfold md_fair_J52 at md0
  rw [lt1_ap, wr_eq, if_neg (show ¬ (0 : Int32) < 0 by decide), lt1_ap] at md0
  replace md0 := md0.trans g2
  have fin : ∀ v, mk_answer (nI wh) X3 = some v → md_fair p1 (nI mn) (nI ch) (nI f) (nI wh) Y = some (v, Y3) → ∃ e v X' u Y', rf_fair p1 (nI mn) (nI ch) (nI f) (nI wh) X = some (e, v, X') ∧ md_fair p1 (nI mn) (nI ch) (nI f) (nI wh) Y = some (u, Y') ∧ ((e = 0 ∧ Y' 0 0 = 0 ∧ v = u) ∨ (¬ e = 0 ∧ e = 1 ∧ Y' 0 0 = 1) ∨ (¬ e = 0 ∧ ¬ e = 1 ∧ e = 4 ∧ Y' 0 0 = 2)) ∧ LV X' c ∧ Z0 X' ∧ (∀ r i, r < 75 → ¬ r = 62 → ¬ (r = 58 ∧ 6 ≤ i) → X' r i = X r i) ∧ (∀ r i, ¬ (r = 5 ∨ (r = 0 ∧ (i = 0 ∨ i = 7 ∨ i = 8 ∨ i = 9 ∨ i = 11 ∨ i = 13 ∨ i = 27)) ∨ r = 13 ∨ r = 14 ∨ r = 15) → Y' r i = Y r i) := fun v hv hm2 => ⟨0, v, X3, v, Y3, by rw [rf0, hv, bind_s], hm2, Or.inl ⟨rfl, h00, rfl⟩, hL3, hZ3, fr, fun r i q => by rw [g5 r i (by omega), wr_ne (by omega), wr_ne (by omega)]⟩
  have q : wh = 0 ∨ wh = 1 ∨ wh = 2 ∨ wh = 3 ∨ wh = 4 ∨ wh = 5 := by omega
  rcases q with rfl | rfl | rfl | rfl | rfl | rfl
  · exact fin (x7) (by unfold mk_answer; rw [if_pos (show nI 0 = 0 from rfl), e4]) (by rw [md0, if_pos (show nI 0 = 0 from rfl)])
  · exact fin (nI w') (by unfold mk_answer; rw [if_neg (show ¬ nI 1 = 0 by decide), if_pos (show nI 1 = 1 from rfl), e1]) (by rw [md0, if_neg (show ¬ nI 1 = 0 by decide), if_pos (show nI 1 = 1 from rfl)])
  · exact fin (x8) (by unfold mk_answer; rw [if_neg (show ¬ nI 2 = 0 by decide), if_neg (show ¬ nI 2 = 1 by decide), if_pos (show nI 2 = 2 from rfl), e5]) (by rw [md0, if_neg (show ¬ nI 2 = 0 by decide), if_neg (show ¬ nI 2 = 1 by decide), if_pos (show nI 2 = 2 from rfl)])
  · exact fin (x9) (by unfold mk_answer; rw [if_neg (show ¬ nI 3 = 0 by decide), if_neg (show ¬ nI 3 = 1 by decide), if_neg (show ¬ nI 3 = 2 by decide), if_pos (show nI 3 = 3 from rfl), e8, ← e7]) (by rw [md0, if_neg (show ¬ nI 3 = 0 by decide), if_neg (show ¬ nI 3 = 1 by decide), if_neg (show ¬ nI 3 = 2 by decide), if_pos (show nI 3 = 3 from rfl)])
  · exact fin (x10) (by unfold mk_answer; rw [if_neg (show ¬ nI 4 = 0 by decide), if_neg (show ¬ nI 4 = 1 by decide), if_neg (show ¬ nI 4 = 2 by decide), if_neg (show ¬ nI 4 = 3 by decide), if_pos (show nI 4 = 4 from rfl), e9]) (by rw [md0, if_neg (show ¬ nI 4 = 0 by decide), if_neg (show ¬ nI 4 = 1 by decide), if_neg (show ¬ nI 4 = 2 by decide), if_neg (show ¬ nI 4 = 3 by decide), if_pos (show nI 4 = 4 from rfl)])
  · exact fin (x11) (by unfold mk_answer; rw [if_neg (show ¬ nI 5 = 0 by decide), if_neg (show ¬ nI 5 = 1 by decide), if_neg (show ¬ nI 5 = 2 by decide), if_neg (show ¬ nI 5 = 3 by decide), if_neg (show ¬ nI 5 = 4 by decide), e10]) (by rw [md0, if_neg (show ¬ nI 5 = 0 by decide), if_neg (show ¬ nI 5 = 1 by decide), if_neg (show ¬ nI 5 = 2 by decide), if_neg (show ¬ nI 5 = 3 by decide), if_neg (show ¬ nI 5 = 4 by decide)])
