/-! the fair: they leave; a trip -/
theorem sF_no {p : Nat → Bool} : ∀ n, sF (fun _ => 1) p n = 0 → ∀ i, i < n → p i = false
  | 0, _, i, hi => absurd hi (by omega)
  | n + 1, h, i, hi => by
    unfold sF at h
    by_cases q : p n = true
    · rw [if_pos q] at h
      omega
    · rw [if_neg q] at h
      by_cases e : i = n
      · rw [e]; exact Bool.eq_false_iff.mpr q
      · exact sF_no n (by omega) i (by omega)
theorem no_sF {f : Nat → Nat} {p : Nat → Bool} : ∀ n, (∀ i, i < n → p i = false) → sF f p n = 0 ∧ xF f p n = 0
  | 0, _ => ⟨rfl, rfl⟩
  | n + 1, h => by
    obtain ⟨h1, h2⟩ := no_sF (f := f) (p := p) n (fun i hi => h i (by omega))
    unfold sF xF
    rw [h1, h2, h n (by omega), if_neg (by decide)]
    exact ⟨rfl, rfl⟩
def OKj (X Y : Mem) (t j : Nat) : Prop := ∃ a q, a ≤ t ∧ 10 ≤ q ∧ q ≤ 90 ∧ X 90 j = nI a ∧ Y 14 j = nI a ∧ X 91 j = nI q ∧ Y 13 j = nI q
theorem OK_mono {X Y : Mem} {t t' j : Nat} (h : OKj X Y t j) (ht : t ≤ t') : OKj X Y t' j := by
  obtain ⟨a, q, h1, h2⟩ := h
  exact ⟨a, q, by omega, h2⟩
theorem OK_cong {X Y X' Y' : Mem} {t j : Nat} (h : OKj X Y t j) (h1 : X' 90 j = X 90 j) (h2 : X' 91 j = X 91 j) (h3 : Y' 13 j = Y 13 j) (h4 : Y' 14 j = Y 14 j) : OKj X' Y' t j := by
  obtain ⟨a, q, g1, g2, g3, g4, g5, g6, g7⟩ := h
  exact ⟨a, q, g1, g2, g3, by rw [h1, g4], by rw [h4, g5], by rw [h2, g6], by rw [h3, g7]⟩
theorem OK_fun {X Y : Mem} {t j : Nat} (h : OKj X Y t j) (ht : t ≤ 600) : 10 ≤ (X 91 j).toNatClampNeg ∧ (X 91 j).toNatClampNeg ≤ 90 ∧ (X 90 j).toNatClampNeg ≤ t ∧ X 90 j = nI (X 90 j).toNatClampNeg ∧ Y 14 j = nI (X 90 j).toNatClampNeg ∧ X 91 j = nI (X 91 j).toNatClampNeg ∧ Y 13 j = nI (X 91 j).toNatClampNeg := by
  obtain ⟨a, q, g1, g2, g3, g4, g5, g6, g7⟩ := h
  rw [g4, g6, n_cl (by omega), n_cl (by omega)]
  exact ⟨g2, g3, g1, rfl, g5, rfl, g7⟩
theorem leaveS {w t lg : Nat} {cm wg : Nat → Nat} {ab : Nat → Bool} {a9 a12 p1 p2 p3 p4 p5 y7 y8 y9 y10 y11 y12 y13 : Int32} (hw : w ≤ 40) (ht : t ≤ 600) (hg : ∀ i, i < w → 10 ≤ wg i ∧ wg i ≤ 90 ∧ cm i ≤ t) (hl : lg ≤ 600) {K : Int32 → Mem → Option Mem} {K2 : Int32 → Mem → Option (Int32 × Mem)} : ∀ m i sd fu fu2 (X Y : Mem), i + m = w → sd ≤ i → m < fu → m < fu2 → X 89 7 = nI w → (∀ j, i ≤ j → j < w → X 90 j = nI (cm j) ∧ Y 14 j = nI (cm j) ∧ X 91 j = nI (wg j) ∧ Y 13 j = nI (wg j) ∧ X 94 j = bI (ab j) ∧ Y 15 j = if ab j = true then -2 else -1) → (∀ j, j < sd → OKj X Y t j) → X 89 9 = a9 + nI (sF (fun _ => 1) ab i) → X 89 12 = a12 + nI (sF (fun i => t - cm i) ab i) → X 89 11 = nI (max lg (xF (fun i => t - cm i) ab i)) → ∃ (X' Y' : Mem) (sd' : Nat), sd' ≤ w ∧ mk_leave_L4 (nI t) K fu (nI sd) (nI i) X = K (nI sd') X' ∧ md_fair_L472 p1 p2 p3 p4 p5 (nI w) y7 y8 y9 y10 y11 y12 y13 K2 fu2 (nI sd) (nI i) Y = K2 (nI sd') Y' ∧ (∀ j, j < sd' → OKj X' Y' t j) ∧ X' 89 9 = a9 + nI (sF (fun _ => 1) ab w) ∧ X' 89 12 = a12 + nI (sF (fun i => t - cm i) ab w) ∧ X' 89 11 = nI (max lg (xF (fun i => t - cm i) ab w)) ∧ (∀ r k, ¬ (r = 90 ∨ r = 91 ∨ (r = 89 ∧ (k = 9 ∨ k = 11 ∨ k = 12))) → X' r k = X r k) ∧ (∀ r k, ¬ (r = 13 ∨ r = 14) → Y' r k = Y r k) := by
  intro m
  induction m with
  | zero =>
    intro i sd fu fu2 X Y hi hs hf hf2 h7 hA hO h9 h12 h11
    obtain ⟨fu, rfl⟩ : ∃ f, fu = f + 1 := ⟨fu - 1, by omega⟩
    obtain ⟨fu2, rfl⟩ : ∃ f, fu2 = f + 1 := ⟨fu2 - 1, by omega⟩
    obtain rfl : i = w := by omega
    refine ⟨X, Y, sd, hs, ?_, ?_, hO, h9, h12, h11, fun _ _ _ => rfl, fun _ _ _ => rfl⟩
    · rw [mk_leave_L4, h7, if_neg (by rw [n_lt (by omega) (by omega)]; omega)]
    · rw [md_fair_L472, if_neg (by rw [n_lt (by omega) (by omega)]; omega)]
  | succ m ih =>
    intro i sd fu fu2 X Y hi hs hf hf2 h7 hA hO h9 h12 h11
    obtain ⟨fu, rfl⟩ : ∃ f, fu = f + 1 := ⟨fu - 1, by omega⟩
    obtain ⟨fu2, rfl⟩ : ∃ f, fu2 = f + 1 := ⟨fu2 - 1, by omega⟩
    obtain ⟨g1, g2, g3, g4, g5, g6⟩ := hA i (Nat.le_refl _) (by omega)
    obtain ⟨b1, b2, b3⟩ := hg i (by omega)
    have s1 : sF (fun _ => 1) ab (i + 1) = sF (fun _ => 1) ab i + if ab i = true then 1 else 0 := rfl
    have s2 : sF (fun i => t - cm i) ab (i + 1) = sF (fun i => t - cm i) ab i + if ab i = true then t - cm i else 0 := rfl
    have s3 : xF (fun i => t - cm i) ab (i + 1) = max (xF (fun i => t - cm i) ab i) (if ab i = true then t - cm i else 0) := rfl
    have hx := xF_le (f := fun i => t - cm i) (p := ab) (B := 600) i (fun i hi => by show t - cm i ≤ 600; omega)
    cases hab : ab i
    · replace s1 : sF (fun _ => 1) ab (i + 1) = sF (fun _ => 1) ab i := by rw [s1, hab]; rfl
      replace s2 : sF (fun i => t - cm i) ab (i + 1) = sF (fun i => t - cm i) ab i := by rw [s2, hab]; rfl
      replace s3 : xF (fun i => t - cm i) ab (i + 1) = xF (fun i => t - cm i) ab i := by rw [s3, hab, if_neg (by decide), Nat.max_zero]
      obtain ⟨X', Y', sd', e0, e1, e2, e3, e4, e5, e6, e7, e8⟩ := ih (i + 1) (sd + 1) fu fu2 (wr (wr X 90 sd (nI (cm i))) 91 sd (nI (wg i))) (wr (wr Y 13 sd (nI (wg i))) 14 sd (nI (cm i))) (by omega) (by omega) (by omega) (by omega) (by rw [wr_ne (by omega), wr_ne (by omega), h7]) (fun j a d => by rw [wr_ne (by omega), wr_ne (by omega), wr_ne (by omega), wr_ne (by omega), wr_ne (by omega), wr_ne (by omega), wr_ne (by omega), wr_ne (by omega), wr_ne (by omega), wr_ne (by omega), wr_ne (by omega), wr_ne (by omega)]; exact hA j (by omega) d) (fun j hj => by
        by_cases q : j = sd
        · subst q
          exact ⟨cm i, wg i, b3, b1, b2, by rw [wr_ne (by omega), wr_eq], by rw [wr_eq], by rw [wr_eq], by rw [wr_ne (by omega), wr_eq]⟩
        · exact OK_cong (hO j (by omega)) (by rw [wr_ne (by omega), wr_ne (by omega)]) (by rw [wr_ne (by omega), wr_ne (by omega)]) (by rw [wr_ne (by omega), wr_ne (by omega)]) (by rw [wr_ne (by omega), wr_ne (by omega)])) (by rw [wr_ne (by omega), wr_ne (by omega), h9, s1]) (by rw [wr_ne (by omega), wr_ne (by omega), h12, s2]) (by rw [wr_ne (by omega), wr_ne (by omega), h11, s3])
      refine ⟨X', Y', sd', e0, ?_, ?_, e3, e4, e5, e6, fun r k q => by rw [e7 _ _ q, wr_ne (by omega), wr_ne (by omega)], fun r k q => by rw [e8 _ _ q, wr_ne (by omega), wr_ne (by omega)]⟩
      · rw [mk_leave_L4, h7, if_pos (show nI i < nI w by rw [n_lt (by omega) (by omega)]; omega), chk_in (by omega) (by omega), n_cl (by omega), g5, hab, if_pos (show bI false = 0 from rfl), chk_in (by omega) (by omega), chk_in (by omega) (by omega), n_cl (by omega), g1, lt1_ap, chk_in (by omega) (by omega), chk_in (by omega) (by omega), wr_ne (r' := 91) (by omega), g3, lt1_ap, show nI sd + 1 = nI (sd + 1) from n_add _ _, show nI i + 1 = nI (i + 1) from n_add _ _, e1]
      · rw [md_fair_L472, if_pos (show nI i < nI w by rw [n_lt (by omega) (by omega)]; omega), chk_in (by omega) (by omega), n_cl (by omega), g6, hab, if_neg (show ¬ (false = true) by decide), if_neg (show ¬ (-1 : Int32) = -2 by decide), chk_in (by omega) (by omega), chk_in (by omega) (by omega), n_cl (by omega), g4, lt1_ap, chk_in (by omega) (by omega), chk_in (by omega) (by omega), wr_ne (r' := 14) (by omega), g2, lt1_ap, show nI sd + 1 = nI (sd + 1) from n_add _ _, show nI i + 1 = nI (i + 1) from n_add _ _, e2]
    · rw [hab, if_pos rfl] at s1 s2 s3
      obtain ⟨X', Y', sd', e0, e1, e2, e3, e4, e5, e6, e7, e8⟩ := ih (i + 1) sd fu fu2 (wr (wr (wr X 89 9 (a9 + nI (sF (fun _ => 1) ab i) + 1)) 89 12 (a12 + nI (sF (fun i => t - cm i) ab i) + nI (t - cm i))) 89 11 (nI (max (max lg (xF (fun i => t - cm i) ab i)) (t - cm i)))) Y (by omega) (by omega) (by omega) (by omega) (by rw [wr_ne (by omega), wr_ne (by omega), wr_ne (by omega), h7]) (fun j a d => by rw [wr_ne (by omega), wr_ne (by omega), wr_ne (by omega), wr_ne (by omega), wr_ne (by omega), wr_ne (by omega), wr_ne (by omega), wr_ne (by omega), wr_ne (by omega)]; exact hA j (by omega) d) (fun j hj => OK_cong (hO j hj) (by rw [wr_ne (by omega), wr_ne (by omega), wr_ne (by omega)]) (by rw [wr_ne (by omega), wr_ne (by omega), wr_ne (by omega)]) rfl rfl) (by rw [wr_ne (by omega), wr_ne (by omega), wr_eq, s1, Int32.add_assoc, show nI (sF (fun _ => 1) ab i) + 1 = nI (sF (fun _ => 1) ab i + 1) from n_add _ _]) (by rw [wr_ne (by omega), wr_eq, s2, Int32.add_assoc, n_add]) (by rw [wr_eq, s3, Nat.max_assoc])
      refine ⟨X', Y', sd', e0, ?_, ?_, e3, e4, e5, e6, fun r k q => by rw [e7 _ _ q, wr_ne (by omega), wr_ne (by omega), wr_ne (by omega)], e8⟩
      · rw [mk_leave_L4, h7, if_pos (show nI i < nI w by rw [n_lt (by omega) (by omega)]; omega), chk_in (by omega) (by omega), n_cl (by omega), g5, hab, if_neg (show ¬ bI true = 0 by decide), chk_in (by omega) (by omega), h9, lt1_ap, wr_ne (r := 89) (r' := 89) (i := 9) (i' := 12) (by omega), h12, g1, n_sub b3, lt1_ap, wr_ne (r := 89) (r' := 89) (i := 12) (i' := 11) (by omega), wr_ne (r := 89) (r' := 89) (i := 9) (i' := 11) (by omega), h11]
        unfold imax
        rw [max_if (by omega) (by omega), lt1_ap, show nI i + 1 = nI (i + 1) from n_add _ _, e1]
      · rw [md_fair_L472, if_pos (show nI i < nI w by rw [n_lt (by omega) (by omega)]; omega), chk_in (by omega) (by omega), n_cl (by omega), g6, hab, if_pos rfl, if_pos rfl, show nI i + 1 = nI (i + 1) from n_add _ _, e2]
/-- what holds at the beginning of a minute's end -/
def FI (X Y : Mem) (c : Nat → Nat) (t w : Nat) (x7 x8 x9 x10 x11 : Int32) : Prop := w ≤ 40 ∧ X 89 7 = nI w ∧ (∀ j, j < w → OKj X Y t j) ∧ X 89 8 = Y 0 27 ∧ X 89 9 = x7 ∧ X 89 10 = x8 ∧ (∃ lg, lg ≤ 600 ∧ x9 = nI lg ∧ X 89 11 = nI lg) ∧ X 89 12 = x10 ∧ X 89 13 = x11 ∧ MV X c ∧ EY Y c ∧ RuX 58 X c
def FX2 (X X' : Mem) : Prop := ∀ r i, r < 89 → ¬ r = 62 → ¬ (r = 58 ∧ 6 ≤ i) → X' r i = X r i
def FY2 (Y Y' : Mem) : Prop := ∀ r i, ¬ (r = 5 ∨ (r = 0 ∧ (i = 7 ∨ i = 8 ∨ i = 9 ∨ i = 11 ∨ i = 13 ∨ i = 27)) ∨ r = 13 ∨ r = 14 ∨ r = 15) → Y' r i = Y r i
theorem FX2_tr {A B D : Mem} (h : FX2 A B) (h2 : FX2 B D) : FX2 A D := fun r i p q s => (h2 r i p q s).trans (h r i p q s)
theorem FY2_tr {A B D : Mem} (h : FY2 A B) (h2 : FY2 B D) : FY2 A D := fun r i p => (h2 r i p).trans (h r i p)
theorem tripS {X Y : Mem} {c : Nat → Nat} {T t w f : Nat} {x7 x8 x9 x10 x11 x12 p1 p2 p3 p5 : Int32} (hb : WB T c) (hT : T ≤ 520) (h : FI X Y c t w x7 x8 x9 x10 x11) (hw0 : 0 < w) (ht : t ≤ 600) (hf : 1 ≤ f ∧ f ≤ 99) (h12 : ¬ nI t < x12) {rec : Int32 → Int32 → Int32 → Int32 → Int32 → Int32 → Int32 → Int32 → Mem → Option (Int32 × Mem)} {K : Int32 → Int32 → Int32 → Int32 → Int32 → Int32 → Mem → Option (Int32 × Mem)} : ∃ (e w' : Nat) (X' Y' : Mem) (x7' x9' x10' x11' x12' : Int32), e ≤ 200 ∧ mk_minutesAway (nI t) (nI f) X = some (nI e, X') ∧ md_fair_J156 p1 p2 p3 (nI f) p5 rec K (nI w) x7 x8 x9 x10 x11 x12 (nI t) Y = rec (nI w') x7' x8 x9' x10' x11' x12' (nI (t + 1)) Y' ∧ FI X' Y' c t w' x7' x8 x9' x10' x11' ∧ ((x12' = x12 ∧ e = 0) ∨ x12' = nI (t + e)) ∧ FX2 X X' ∧ FY2 Y Y' := by
  obtain ⟨hw, h7, hO, h8, h9, h10, ⟨lg, hl, rfl, h11⟩, h12', h13, hM, hE, hR⟩ := h
  have i1 : ¬ (1 : Int32) = 0 := by decide
  have hF := fun j (hj : j < w) => OK_fun (hO j hj) ht
  have hsame : ∀ j, j < w → (wr (wr X 58 8 (nI w)) 58 9 (nI t)) 90 j = Y 14 j ∧ (wr (wr X 58 8 (nI w)) 58 9 (nI t)) 91 j = Y 13 j := fun j hj => by
    obtain ⟨-, -, -, a1, a2, a3, a4⟩ := hF j hj
    rw [wr_ne (by omega), wr_ne (by omega), wr_ne (by omega), wr_ne (by omega)]
    exact ⟨a1.trans a2.symm, a3.trans a4.symm⟩
  obtain ⟨X1, Y1, nb, n1, n2, n3, n4, n5⟩ := numS (p1 := p1) (p2 := p2) (p3 := p3) (p4 := nI f) (p5 := p5) (y7 := x7) (y8 := x8) (y9 := nI lg) (y10 := x10) (y11 := x11) (y12 := x12) hw (K := fun M8 => some M8) (K2 := fun M10 => md_fair_L219 p1 p2 p3 (nI f) p5 (nI w) (x7) (x8) (x11) (x12) (nI t) (fun v9_15 v10_15 v14_15 v15_15 M17 => (if v15_15 = 0 then rec (nI w) (x7) (x8) (v9_15) (v10_15) (x11) (x12) ((nI t + (1 : Int32))) (M17) else (md_needOf (v14_15) M17).bind fun v18 => (md_minutesBy (v18) (nI f) M17).bind fun v19 => (md_needOf ((M17 1 6)) M17).bind fun v20 => (md_minutesBy (v20) (nI f) M17).bind fun v21 => md_fair_L472 p1 p2 p3 (nI f) p5 (nI w) ((x7 + v15_15)) (x8) (v9_15) (v10_15) ((x11 + (1 : Int32))) (((nI t + v19) + v21)) (nI t) (fun v17_23 M25 => rec (v17_23) ((x7 + v15_15)) (x8) (v9_15) (v10_15) ((x11 + (1 : Int32))) (((nI t + v19) + v21)) ((nI t + (1 : Int32))) (M25)) FU ((0 : Int32)) ((0 : Int32)) M17)) FU (nI lg) (x10) ((M10 1 6)) ((0 : Int32)) ((1 : Int32)) M10) w 0 FU FU (wr (wr X 58 8 (nI w)) 58 9 (nI t)) Y (by omega) (by rw [FUe]; omega) (by rw [FUe]; omega) (by rw [wr_ne (by omega), wr_ne (by omega), h7]) (by rw [wr_ne (by omega), wr_eq]) wr_eq (RuX_fr hR fun r i q => by rw [wr_ne (by omega), wr_ne (by omega)]) hE hsame
  have kX1 : ∀ r i, ¬ (r = 62 ∨ (r = 58 ∧ 6 ≤ i) ∨ (92 ≤ r ∧ r ≤ 94)) → X1 r i = X r i := fun r i q => by
    by_cases q2 : r = 58 ∧ 6 ≤ i
    · omega
    · rw [n4 _ _ (by omega), wr_ne (by omega), wr_ne (by omega)]
  have hM1 : MV X1 c := MVk hM fun r i q => kX1 r i (by omega)
  have hE1 : EY Y1 c := EY_fr hE fun i => n5 _ _ (by omega)
  have hP : PI X1 Y1 c w nb (fun j => (X 91 j).toNatClampNeg) (fun j => (X 90 j).toNatClampNeg) (fun _ => false) (fun _ => false) := by
    refine ⟨by rw [kX1 _ _ (by omega), h7], fun i hi => ?_, hM1, hE1⟩
    obtain ⟨a1, a2, a3, a4, a5⟩ := n3 i (Nat.zero_le _) hi
    obtain ⟨-, -, -, b1, b2, b3, b4⟩ := hF i hi
    refine ⟨a1, a2, a3, a4, ?_, ?_, ?_, ?_, fun h => h⟩
    · rw [kX1 _ _ (by omega)]; exact b3
    · rw [n5 _ _ (by omega)]; exact b4
    · rw [n5 _ _ (by omega)]; exact b2
    · rw [a5]
      exact (if_neg (fun h => Bool.noConfusion h)).symm
  obtain ⟨X2, Y2, ab, g1, g2, g3, g4, g5, g6⟩ := pickS (T := T) (lg := lg) (s0 := x10) (p1 := p1) (p2 := p2) (p3 := p3) (p5 := p5) (y7 := x7) (y8 := x8) (y11 := x11) (y12 := x12) hb hT hw ht (fun i hi => ⟨(hF i hi).2.1, (hF i hi).2.2.1⟩) hf.2 hl (K := fun v3_5 M7 => (if v3_5 = 0 then some ((0 : Int32), M7) else (mk_leave (nI t) M7).bind fun M8 => lt1 (wr M8 89 13 ((M8 89 13) + (1 : Int32))) fun M9 => (mv_needFor (v3_5) M9).bind fun v10 => (mv_minutesFor (v10) (nI f) M9).bind fun v11 => (mv_needFor ((0 : Int32)) M9).bind fun v12 => (mv_minutesFor (v12) (nI f) M9).bind fun v13 => some ((v11 + v13), M9))) (K2 := fun v9_15 v10_15 v14_15 v15_15 M17 => (if v15_15 = 0 then rec (nI w) (x7) (x8) (v9_15) (v10_15) (x11) (x12) ((nI t + (1 : Int32))) (M17) else (md_needOf (v14_15) M17).bind fun v18 => (md_minutesBy (v18) (nI f) M17).bind fun v19 => (md_needOf ((M17 1 6)) M17).bind fun v20 => (md_minutesBy (v20) (nI f) M17).bind fun v21 => md_fair_L472 p1 p2 p3 (nI f) p5 (nI w) ((x7 + v15_15)) (x8) (v9_15) (v10_15) ((x11 + (1 : Int32))) (((nI t + v19) + v21)) (nI t) (fun v17_23 M25 => rec (v17_23) ((x7 + v15_15)) (x8) (v9_15) (v10_15) ((x11 + (1 : Int32))) (((nI t + v19) + v21)) ((nI t + (1 : Int32))) (M25)) FU ((0 : Int32)) ((0 : Int32)) M17)) w 0 FU FU X1 Y1 (fun _ => false) (fun _ => false) (by omega) (by rw [FUe]; omega) (by rw [FUe]; omega) (sF_f w) hP (Or.inl (sF_f w))
  rw [sF_f, sF_f, xF_f, Nat.max_zero, Nat.add_zero, sF_f, show x10 + nI 0 = x10 from Int32.add_zero x10] at g2
  rw [sF_f] at g1
  have kX2 : ∀ r i, ¬ (r = 62 ∨ (r = 58 ∧ 6 ≤ i) ∨ (92 ≤ r ∧ r ≤ 94)) → X2 r i = X r i := fun r i q => by rw [g5 _ _ (by omega), kX1 _ _ q]
  have kY2 : ∀ r i, ¬ (r = 5 ∨ (r = 0 ∧ (i = 7 ∨ i = 8 ∨ i = 9 ∨ i = 11 ∨ i = 13)) ∨ r = 15) → Y2 r i = Y r i := fun r i q => by rw [g6 _ _ (by omega), n5 _ _ (by omega)]
  have hM2 : MV X2 c := MVk hM fun r i q => kX2 r i (by omega)
  have hE2 : EY Y2 c := EY_fr hE fun i => kY2 _ _ (by omega)
  have hR2 : RuX 58 X2 c := RuX_fr hR fun r i q => kX2 r i (by omega)
  have h16 : Y1 1 6 = nI (c 6) := EY_n hE1 (by omega) (by omega)
  have hw1 : ¬ nI w = 0 := by rw [show (0 : Int32) = nI 0 from rfl, n_eq (by omega) (by omega)]; omega
  rw [h16] at n2
  have ref0 := n2.trans g2
  generalize hS : sF (fun j => (X 91 j).toNatClampNeg) ab w = S at *
  have hSle : S ≤ 3600 := by
    have := sF_le (f := fun j => (X 91 j).toNatClampNeg) (p := ab) (B := 90) w (fun i hi => (hF i hi).2.1)
    have : w * 90 ≤ 40 * 90 := Nat.mul_le_mul_right 90 hw
    omega
  have hc := sF_ones (p := ab) w
  have hnz := sF_nz (f := fun j => (X 91 j).toNatClampNeg) (p := ab) w (fun i hi => by have := (hF i hi).1; omega)
  rw [hS] at hnz
  have wX : ∀ X', (∀ r k, r < 89 → X' r k = X2 r k) → FX2 X X' := fun X' e r i a d k => by rw [e r i a, kX2 r i (by omega)]
  by_cases q : S = 0
  · obtain ⟨z1, z2⟩ := no_sF (f := fun j => t - (X 90 j).toNatClampNeg) w (sF_no w (hnz.mp q))
    rw [if_pos (by rw [hnz.mp q]; rfl), z1, z2, Nat.max_zero, show x10 + nI 0 = x10 from Int32.add_zero x10] at ref0
    have cls0 : mk_minutesAway (nI t) (nI f) X = some (nI 0, X2) := by
      unfold mk_minutesAway mk_giveNumbers
      rw [h7, show ru_setHour 58 (nI w) (nI t) X = some (wr (wr X 58 8 (nI w)) 58 9 (nI t)) from rfl, bind_s, show (0 : Int32) = nI 0 from rfl, n1, bind_s]
      refine Eq.trans g1 ?_
      rw [if_pos (by rw [q]; rfl)]
      rfl
    refine ⟨0, w, X2, Y2, x7, nI lg, x10, x11, x12, by omega, cls0, by
      unfold md_fair_J156
      rw [show nI (t + 1) = nI t + 1 from (n_add t 1).symm, if_neg h12, if_neg hw1]
      exact ref0, ⟨hw, by rw [kX2 _ _ (by omega), h7], fun j hj => OK_cong (hO j hj) (kX2 _ _ (by omega)) (kX2 _ _ (by omega)) (kY2 _ _ (by omega)) (kY2 _ _ (by omega)), by rw [kX2 _ _ (by omega), kY2 _ _ (by omega), h8], by rw [kX2 _ _ (by omega), h9], by rw [kX2 _ _ (by omega), h10], ⟨lg, hl, rfl, by rw [kX2 _ _ (by omega), h11]⟩, by rw [kX2 _ _ (by omega), h12'], by rw [kX2 _ _ (by omega), h13], hM2, hE2, hR2⟩, Or.inl ⟨rfl, rfl⟩, wX X2 fun _ _ _ => rfl, fun r i x => kY2 r i (by omega)⟩
  · have hB : c 6 + S ≤ c 5 ∧ nee c (c 6 + S) ≤ f := by
      rcases g4 with h | h
      · exact absurd h q
      · exact h
    have h5 : c 5 ≤ 999 := hM.2.2.2.2.1.2
    have hsr := sr_le hM.2.2
    have hnd : nee c (c 6 + S) ≤ 64 := by unfold nee; omega
    have hn0 : nee c (c 6) ≤ nee c (c 6 + S) := by
      unfold nee
      have : (c 6 + 19) / 20 ≤ (c 6 + S + 19) / 20 := Nat.div_le_div_right (by omega)
      omega
    have m1 := (mins_le (nd := nee c (c 6 + S)) (f := f) hM.2.2 hB.2 hf.1).1
    have m2 := (mins_le (nd := nee c (c 6)) (f := f) hM.2.2 (by omega) hf.1).1
    obtain ⟨X3, Y3, sd, l0, l1, l2, l3, l4, l5, l6, l7, l8⟩ := leaveS (lg := lg) (a9 := x7) (a12 := x10) (p1 := p1) (p2 := p2) (p3 := p3) (p4 := nI f) (p5 := p5) (y7 := x7 + nI (sF (fun _ => 1) ab w)) (y8 := x8) (y9 := nI (max lg (xF (fun i => t - (X 90 i).toNatClampNeg) ab w))) (y10 := x10 + nI (sF (fun i => t - (X 90 i).toNatClampNeg) ab w)) (y11 := x11 + 1) (y12 := nI t + nI (mins c (nee c (c 6 + S)) f) + nI (mins c (nee c (c 6)) f)) (y13 := nI t) hw ht (fun i hi => ⟨(hF i hi).1, (hF i hi).2.1, (hF i hi).2.2.1⟩) hl (K := fun v2_5 M7 => lt1 (wr M7 89 7 v2_5) fun M8 => some M8) (K2 := fun v17_23 M25 => rec (v17_23) ((x7 + nI (sF (fun _ => 1) ab w))) (x8) (nI (max lg (xF (fun i => t - (X 90 i).toNatClampNeg) ab w))) (x10 + nI (sF (fun i => t - (X 90 i).toNatClampNeg) ab w)) ((x11 + (1 : Int32))) (((nI t + nI (mins c (nee c (c 6 + S)) f)) + nI (mins c (nee c (c 6)) f))) ((nI t + (1 : Int32))) (M25)) w 0 0 FU FU X2 Y2 (by omega) (Nat.le_refl _) (by rw [FUe]; omega) (by rw [FUe]; omega) (by rw [kX2 _ _ (by omega), h7]) (fun j a d => by
      obtain ⟨b5, b6, b7, b1, b2, b3, b4⟩ := hF j d
      rw [kX2 _ _ (by omega), kX2 _ _ (by omega), kY2 _ _ (by omega), kY2 _ _ (by omega)]
      exact ⟨b1, b2, b3, b4, (g3 j d).1, (g3 j d).2⟩) (fun j hj => absurd hj (by omega)) (by rw [kX2 _ _ (by omega), h9]; exact (Int32.add_zero x7).symm) (by rw [kX2 _ _ (by omega), h12']; exact (Int32.add_zero x10).symm) (by rw [kX2 _ _ (by omega), h11]; show _ = nI (max lg 0); rw [Nat.max_zero])
    have hE16 : Y2 1 6 = nI (c 6) := EY_n hE2 (by omega) (by omega)
    have hkX : ∀ r k, r < 89 → wr (wr X3 89 7 (nI sd)) 89 13 (x11 + 1) r k = X2 r k := fun r k a => by rw [wr_ne (by omega), wr_ne (by omega), l7 _ _ (by omega)]
    have hM4 : MV (wr (wr X3 89 7 (nI sd)) 89 13 (x11 + 1)) c := MVk hM2 fun r i q => hkX r i (by omega)
    have nd1 := k_need hM4 (w := S) (by omega)
    have nd0 := k_need hM4 (w := 0) (by omega)
    rw [Nat.add_zero] at nd0
    have km1 := k_mins hM4 (nd := nee c (c 6 + S)) (f := f) hnd (by omega) (by omega)
    have km0 := k_mins hM4 (nd := nee c (c 6)) (f := f) (by omega) (by omega) (by omega)
    have rn1 := r_need hE2 hM.2.2 hb hT (w := c 6 + S) (by omega)
    have rn0 := r_need hE2 hM.2.2 hb hT (w := c 6) (by omega)
    have rm1 := r_mins hE2 hM.2.2 (nd := nee c (c 6 + S)) (f := f) hnd (by omega) (by omega)
    have rm0 := r_mins hE2 hM.2.2 (nd := nee c (c 6)) (f := f) (by omega) (by omega) (by omega)
    have cls : mk_minutesAway (nI t) (nI f) X = some (nI (mins c (nee c (c 6 + S)) f + mins c (nee c (c 6)) f), wr (wr X3 89 7 (nI sd)) 89 13 (x11 + 1)) := by
      unfold mk_minutesAway mk_giveNumbers
      rw [h7, show ru_setHour 58 (nI w) (nI t) X = some (wr (wr X 58 8 (nI w)) 58 9 (nI t)) from rfl, bind_s, show (0 : Int32) = nI 0 from rfl, n1, bind_s]
      refine Eq.trans g1 ?_
      rw [if_neg (show ¬ nI S = 0 by rw [show (0 : Int32) = nI 0 from rfl, n_eq (by omega) (by omega)]; exact q)]
      have el : mk_leave (nI t) X2 = some (wr X3 89 7 (nI sd)) := by
        unfold mk_leave
        refine Eq.trans l1 ?_
        rfl
      have e13 : (wr X3 89 7 (nI sd)) 89 13 = x11 := by rw [wr_ne (by omega), l7 _ _ (by omega), kX2 _ _ (by omega), h13]
      rw [el, bind_s, e13, lt1_ap, nd1, bind_s, km1, bind_s, show (0 : Int32) = nI 0 from rfl, nd0, bind_s, km0, bind_s, n_add]
    rw [if_neg (show ¬ nI (sF (fun _ => 1) ab w) = 0 by rw [show (0 : Int32) = nI 0 from rfl, n_eq (by omega) (by omega)]; exact fun h => q (hnz.mpr h)), rn1, bind_s, rm1, bind_s, hE16, rn0, bind_s, rm0, bind_s] at ref0
    have refe := ref0.trans l2
    have hx := xF_le (f := fun j => t - (X 90 j).toNatClampNeg) (p := ab) (B := 600) w (fun i hi => by show t - (X 90 i).toNatClampNeg ≤ 600; omega)
    refine ⟨mins c (nee c (c 6 + S)) f + mins c (nee c (c 6)) f, sd, wr (wr X3 89 7 (nI sd)) 89 13 (x11 + 1), Y3, x7 + nI (sF (fun _ => 1) ab w), nI (max lg (xF (fun i => t - (X 90 i).toNatClampNeg) ab w)), x10 + nI (sF (fun i => t - (X 90 i).toNatClampNeg) ab w), x11 + 1, nI t + nI (mins c (nee c (c 6 + S)) f) + nI (mins c (nee c (c 6)) f), by omega, cls, by
      unfold md_fair_J156
      rw [show nI (t + 1) = nI t + 1 from (n_add t 1).symm, if_neg h12, if_neg hw1]
      exact refe, ⟨by omega, by rw [wr_ne (by omega), wr_eq], fun j hj => OK_cong (l3 j hj) (by rw [wr_ne (by omega), wr_ne (by omega)]) (by rw [wr_ne (by omega), wr_ne (by omega)]) rfl rfl, by rw [wr_ne (by omega), wr_ne (by omega), l7 _ _ (by omega), kX2 _ _ (by omega), l8 _ _ (by omega), kY2 _ _ (by omega), h8], by rw [wr_ne (by omega), wr_ne (by omega), l4], by rw [wr_ne (by omega), wr_ne (by omega), l7 _ _ (by omega), kX2 _ _ (by omega), h10], ⟨_, by omega, rfl, by rw [wr_ne (by omega), wr_ne (by omega), l6]⟩, by rw [wr_ne (by omega), wr_ne (by omega), l5], wr_eq, hM4, EY_fr hE2 fun i => l8 _ _ (by omega), RuX_fr hR2 fun r i q => hkX r i (by omega)⟩, Or.inr (by rw [n_add, n_add, Nat.add_assoc]), wX _ hkX, fun r i x => by rw [l8 _ _ (by omega), kY2 r i (by omega)]⟩
