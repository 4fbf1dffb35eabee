/-! the fair: numbers are given, the ferry is loaded -/
theorem MVk {X X' : Mem} {c : Nat → Nat} (h : MV X c) (e : ∀ r i, ((6 ≤ r ∧ r < 14) ∨ (75 ≤ r ∧ r ≤ 79)) → X' r i = X r i) : MV X' c := by
  obtain ⟨h1, ⟨h2, h3, h4⟩, h5⟩ := h
  refine ⟨XR_cong h1 fun r i a d => e r i (by omega), ⟨by rw [e _ _ (by omega), h2], by rw [e _ _ (by omega), h3], fun s hs => ?_⟩, h5⟩
  obtain ⟨g1, g2, g3, g4⟩ := h4 s hs
  exact ⟨by rw [e _ _ (by omega), g1], by rw [e _ _ (by omega), g2], by rw [e _ _ (by omega), g3], by rw [e _ _ (by omega), g4]⟩
theorem RuX_fr {X X' : Mem} {c : Nat → Nat} (h : RuX 58 X c) (e : ∀ r i, (r = 58 ∧ i = 0) ∨ (59 ≤ r ∧ r ≤ 61) → X' r i = X r i) : RuX 58 X' c := RuX_cong h (e _ _ (by omega)) (fun j _ => ⟨e _ _ (by omega), e _ _ (by omega)⟩) (fun i _ => e _ _ (by omega)) (fun _ _ => rfl)
theorem numS {c : Nat → Nat} {w t : Nat} {p1 p2 p3 p4 p5 y7 y8 y9 y10 y11 y12 : Int32} (hw : w ≤ 40) {K : Mem → Option Mem} {K2 : Mem → Option (Int32 × Mem)} : ∀ m i fu fu2 (X Y : Mem), i + m = w → m < fu → m < fu2 → X 89 7 = nI w → X 58 8 = nI w → X 58 9 = nI t → RuX 58 X c → EY Y c → (∀ j, j < w → X 90 j = Y 14 j ∧ X 91 j = Y 13 j) → ∃ (X' Y' : Mem) (nb : Nat → Nat), mk_giveNumbers_L14 (nI t) K fu (nI i) X = K X' ∧ md_fair_L174 p1 p2 p3 p4 p5 (nI w) y7 y8 y9 y10 y11 y12 (nI t) K2 fu2 (nI i) Y = K2 Y' ∧ (∀ j, i ≤ j → j < w → X' 92 j = nI (nb j) ∧ nb j ≤ 999 ∧ X' 93 j = 0 ∧ X' 94 j = 0 ∧ Y' 15 j = nI (nb j)) ∧ (∀ r k, ¬ (r = 62 ∨ (r = 58 ∧ (k = 6 ∨ k = 7)) ∨ (92 ≤ r ∧ r ≤ 94 ∧ i ≤ k)) → X' r k = X r k) ∧ (∀ r k, ¬ (r = 5 ∨ (r = 0 ∧ (k = 7 ∨ k = 8 ∨ k = 9 ∨ k = 11 ∨ k = 13)) ∨ (r = 15 ∧ i ≤ k)) → Y' r k = Y r k) := by
  intro m
  induction m with
  | zero =>
    intro i fu fu2 X Y hi hf hf2 h7 h8 h9 hr hE hA
    obtain ⟨fu, rfl⟩ : ∃ f, fu = f + 1 := ⟨fu - 1, by omega⟩
    obtain ⟨fu2, rfl⟩ : ∃ f, fu2 = f + 1 := ⟨fu2 - 1, by omega⟩
    refine ⟨X, Y, fun _ => 0, ?_, ?_, fun j a d => by omega, fun _ _ _ => rfl, fun _ _ _ => rfl⟩
    · rw [mk_giveNumbers_L14, h7, if_neg (by rw [n_lt (by omega) (by omega)]; omega)]
    · rw [md_fair_L174, if_neg (by rw [n_lt (by omega) (by omega)]; omega)]
  | succ m ih =>
    intro i fu fu2 X Y hi hf hf2 h7 h8 h9 hr hE hA
    obtain ⟨fu, rfl⟩ : ∃ f, fu = f + 1 := ⟨fu - 1, by omega⟩
    obtain ⟨fu2, rfl⟩ : ∃ f, fu2 = f + 1 := ⟨fu2 - 1, by omega⟩
    obtain ⟨a1, a2⟩ := hA i (by omega)
    obtain ⟨u, X1, Y1, u1, u2, u3, u4, u5⟩ := num_of (k := i) (p1 := nI i) (p2 := nI w) (p3 := nI t) (w1 := nI t - X 90 i) (w2 := X 91 i) hE hr (by omega) (by rw [a1]) a2 h8 h9 rfl
    obtain ⟨X', Y', nb, e1, e2, e3, e4, e5⟩ := ih (i + 1) fu fu2 (wr (wr (wr X1 92 i (nI u)) 93 i 0) 94 i 0) (wr Y1 15 i (nI u)) (by omega) (by omega) (by omega) (by rw [wr_ne (by omega), wr_ne (by omega), wr_ne (by omega), u4 _ _ (by omega), h7]) (by rw [wr_ne (by omega), wr_ne (by omega), wr_ne (by omega), u4 _ _ (by omega), h8]) (by rw [wr_ne (by omega), wr_ne (by omega), wr_ne (by omega), u4 _ _ (by omega), h9]) (RuX_fr hr fun r k q => by rw [wr_ne (by omega), wr_ne (by omega), wr_ne (by omega), u4 _ _ (by omega)]) (EY_fr hE fun k => by rw [wr_ne (by omega), u5 _ _ (by omega)]) (fun j hj => by rw [wr_ne (by omega), wr_ne (by omega), wr_ne (by omega), wr_ne (by omega), wr_ne (by omega), wr_ne (by omega), wr_ne (by omega), wr_ne (by omega), u4 _ _ (by omega), u4 _ _ (by omega), u5 _ _ (by omega), u5 _ _ (by omega)]; exact hA j hj)
    refine ⟨X', Y', fun j => if j = i then u else nb j, ?_, ?_, fun j a d => ?_, fun r k q => by rw [e4 _ _ (by omega), wr_ne (by omega), wr_ne (by omega), wr_ne (by omega), u4 _ _ (by omega)], fun r k q => by rw [e5 _ _ (by omega), wr_ne (by omega), u5 _ _ (by omega)]⟩
    · rw [mk_giveNumbers_L14, h7, if_pos (by rw [n_lt (by omega) (by omega)]; omega), chk_in (by omega) (by omega), chk_in (by omega) (by omega), n_cl (by omega), u2, bnd_s, chk_in (by omega) (by omega), lt1_ap, chk_in (by omega) (by omega), lt1_ap, chk_in (by omega) (by omega), lt1_ap, show nI i + 1 = nI (i + 1) from n_add _ _, e1]
    · rw [md_fair_L174, if_pos (by rw [n_lt (by omega) (by omega)]; omega), u3, bnd_s, chk_in (by omega) (by omega), n_cl (by omega), lt1_ap, show nI i + 1 = nI (i + 1) from n_add _ _, e2]
    · dsimp only
      by_cases q : j = i
      · subst q
        rw [if_pos rfl, e4 _ _ (by omega), e4 _ _ (by omega), e4 _ _ (by omega), e5 _ _ (by omega), wr_ne (by omega), wr_ne (by omega), wr_eq, wr_ne (by omega), wr_eq, wr_eq, wr_eq]
        exact ⟨rfl, u1, rfl, rfl, rfl⟩
      · rw [if_neg q]
        exact e3 j (by omega) d
/-- may the ferry bear it -/
def gz (c : Nat → Nat) (f L : Nat) : Bool := decide (c 6 + L ≤ c 5) && decide (nee c (c 6 + L) ≤ f)
def bdd (c : Nat → Nat) (f L : Nat) : Prop := L = 0 ∨ (c 6 + L ≤ c 5 ∧ nee c (c 6 + L) ≤ f)
theorem nee_le {c : Nat → Nat} (hw : WR c) {x : Nat} (h : x ≤ 10000) : nee c x ≤ 600 := by
  have := sr_le hw
  unfold nee
  omega
theorem k_brs {X : Mem} {c : Nat → Nat} {f L : Nat} (h : MV X c) (hL : L ≤ 4000) (hf : f ≤ 99) : mk_bears (nI L) (nI f) X = some (bI (gz c f L)) := by
  have h6 : c 6 ≤ 99 := h.2.2.2.2.2.1
  have hn := nee_le h.2.2 (x := c 6 + L) (by omega)
  unfold mk_bears gz
  rw [k_bears h (by omega), bind_s]
  by_cases q : c 6 + L ≤ c 5
  · rw [ifb_t (decide_eq_true q), k_need h (by omega), bind_s, decide_eq_true q, Bool.true_and]
    by_cases q2 : nee c (c 6 + L) ≤ f
    · rw [if_neg (by rw [n_lt (by omega) (by omega)]; omega), decide_eq_true q2]
      rfl
    · rw [if_pos (by rw [n_lt (by omega) (by omega)]; omega), decide_eq_false q2]
      rfl
  · rw [ifb_f (decide_eq_false q), decide_eq_false q]
    rfl
theorem r_J291 {Y : Mem} {c : Nat → Nat} {T f L j t q a : Nat} (hE : EY Y c) (hw : WR c) (hb : WB T c) (hT : T ≤ 520) {p1 p2 p3 p5 y6 y7 y8 x9 x10 y11 y12 x15 : Int32} {rec : Int32 → Int32 → Int32 → Int32 → Int32 → Mem → Option (Int32 × Mem)} {K : Int32 → Int32 → Int32 → Int32 → Mem → Option (Int32 × Mem)} (hj : j < 41) (h13 : Y 13 j = nI q) (h14 : Y 14 j = nI a) (ha : a ≤ t) (hL : L + q ≤ 4000) (hf : f ≤ 99) : md_fair_J291 p1 p2 p3 (nI f) p5 rec K y6 y7 y8 x9 x10 y11 y12 (nI t) (nI (c 6 + L)) x15 (nI j) 1 Y = if gz c f (L + q) = true then rec (if x9 < nI (t - a) then nI (t - a) else x9) (x10 + nI (t - a)) (nI (c 6 + (L + q))) (x15 + 1) 1 (wr Y 15 j (-2)) else rec x9 x10 (nI (c 6 + L)) x15 1 (wr Y 15 j (-1)) := by
  have h6 : c 6 ≤ 99 := hw.2.2.2.1
  have h5 : c 5 ≤ 999 := hw.2.2.1.2
  have hn := nee_le hw (x := c 6 + (L + q)) (by omega)
  have i1 : ¬ (1 : Int32) = 0 := by decide
  have e5 : Y 1 5 = nI (c 5) := EY_n hE (by omega) (by omega)
  have no : ∀ x18, md_fair_J339 p1 p2 p3 (nI f) p5 rec K y6 y7 y8 x9 x10 y11 y12 (nI t) (nI (c 6 + L)) x15 1 (nI j) x18 Y = rec x9 x10 (nI (c 6 + L)) x15 1 (wr Y 15 j (-1)) := fun x18 => by
    unfold md_fair_J339 md_fair_J340
    rw [if_pos rfl]
    unfold md_fair_J359
    rw [chk_in hj (by omega), n_cl (by omega), lt1_ap, if_pos rfl]
  unfold md_fair_J291
  rw [if_neg i1, chk_in hj (by omega), n_cl (by omega), h13, n_add, e5, show c 6 + L + q = c 6 + (L + q) by omega]
  unfold gz
  by_cases q1 : c 6 + (L + q) ≤ c 5
  · rw [if_neg (by rw [n_lt (by omega) (by omega)]; omega), r_need hE hw hb hT (by omega), bind_s, decide_eq_true q1, Bool.true_and]
    by_cases q2 : nee c (c 6 + (L + q)) ≤ f
    · rw [if_neg (by rw [n_lt (by omega) (by omega)]; omega), if_pos (decide_eq_true q2)]
      unfold md_fair_J340
      rw [if_neg i1]
      unfold md_fair_J359
      rw [chk_in hj (by omega), n_cl (by omega), lt1_ap, if_neg i1, chk_in hj (by omega), wr_ne (by omega), h14, n_sub ha, lt1_ap, lt1_ap]
      by_cases q3 : x9 < nI (t - a)
      · rw [if_pos q3, if_pos q3]
      · rw [if_neg q3, if_neg q3]
    · rw [if_pos (by rw [n_lt (by omega) (by omega)]; omega), if_neg (by rw [decide_eq_false q2]; decide), no]
  · rw [if_pos (by rw [n_lt (by omega) (by omega)]; omega), decide_eq_false q1, Bool.false_and, if_neg (by decide), no]
def PI (X Y : Mem) (c : Nat → Nat) (w : Nat) (nb wg cm : Nat → Nat) (ak ab : Nat → Bool) : Prop := X 89 7 = nI w ∧ (∀ i, i < w → X 92 i = nI (nb i) ∧ nb i ≤ 999 ∧ X 93 i = bI (ak i) ∧ X 94 i = bI (ab i) ∧ X 91 i = nI (wg i) ∧ Y 13 i = nI (wg i) ∧ Y 14 i = nI (cm i) ∧ Y 15 i = wnY nb ak ab i ∧ (ab i = true → ak i = true)) ∧ MV X c ∧ EY Y c
theorem max_if {a x : Nat} (h1 : a ≤ 600) (h2 : x ≤ 600) : (if nI a < nI x then nI x else nI a) = nI (max a x) := by
  by_cases q : a < x
  · rw [if_pos (by rw [n_lt (by omega) (by omega)]; exact q), show max a x = x by omega]
  · rw [if_neg (by rw [n_lt (by omega) (by omega)]; exact q), show max a x = a by omega]
theorem pickS {c : Nat → Nat} {T w t f lg : Nat} {nb wg cm : Nat → Nat} {s0 p1 p2 p3 p5 y7 y8 y11 y12 : Int32} (hb : WB T c) (hT : T ≤ 520) (hw : w ≤ 40) (ht : t ≤ 600) (hg : ∀ i, i < w → wg i ≤ 90 ∧ cm i ≤ t) (hf : f ≤ 99) (hl : lg ≤ 600) {K : Int32 → Mem → Option (Int32 × Mem)} {K2 : Int32 → Int32 → Int32 → Int32 → Mem → Option (Int32 × Mem)} : ∀ m k fu fu2 (X Y : Mem) (ak ab : Nat → Bool), k + m = w → m < fu → m + 1 < fu2 → sF (fun _ => 1) ak w = k → PI X Y c w nb wg cm ak ab → bdd c f (sF wg ab w) → ∃ (X' Y' : Mem) (ab' : Nat → Bool), mk_minutesAway_L10 (nI t) (nI f) K fu (nI (sF wg ab w)) (nI k) X = K (nI (sF wg ab' w)) X' ∧ md_fair_L219 p1 p2 p3 (nI f) p5 (nI w) y7 y8 y11 y12 (nI t) K2 fu2 (nI (max lg (xF (fun i => t - cm i) ab w))) (s0 + nI (sF (fun i => t - cm i) ab w)) (nI (c 6 + sF wg ab w)) (nI (sF (fun _ => 1) ab w)) 1 Y = K2 (nI (max lg (xF (fun i => t - cm i) ab' w))) (s0 + nI (sF (fun i => t - cm i) ab' w)) (nI (c 6 + sF wg ab' w)) (nI (sF (fun _ => 1) ab' w)) Y' ∧ (∀ i, i < w → X' 94 i = bI (ab' i) ∧ Y' 15 i = if ab' i = true then -2 else -1) ∧ bdd c f (sF wg ab' w) ∧ (∀ r i, ¬ (r = 93 ∨ r = 94) → X' r i = X r i) ∧ (∀ r i, ¬ r = 15 → Y' r i = Y r i) := by
  have i1 : ¬ (1 : Int32) = 0 := by decide
  intro m
  induction m with
  | zero =>
    intro k fu fu2 X Y ak ab hk hf1 hf2 hs hP hB
    obtain ⟨fu, rfl⟩ : ∃ f, fu = f + 1 := ⟨fu - 1, by omega⟩
    obtain ⟨fu2, rfl⟩ : ∃ f, fu2 = f + 1 + 1 := ⟨fu2 - 2, by omega⟩
    obtain ⟨h7, hA, hM, hE⟩ := hP
    have hall := sF_all (p := ak) w (by omega)
    have hn : bF nb ak w 0 none = none := by
      cases hb : bF nb ak w 0 none with
      | none => rfl
      | some j =>
        obtain ⟨j1, j2⟩ := bF_ok (w := w) w 0 none (by omega) (fun j h => by cases h) j hb
        rw [hall j j1] at j2
        exact Bool.noConfusion j2
    refine ⟨X, Y, ab, ?_, ?_, fun i hi => ?_, hB, fun _ _ _ => rfl, fun _ _ _ => rfl⟩
    · rw [mk_minutesAway_L10, h7, if_neg (by rw [n_lt (by omega) (by omega)]; omega)]
    · rw [md_fair_L219, if_neg i1]
      refine Eq.trans (rqq_L hw (fun i hi => ⟨(hA i hi).2.2.2.2.2.2.2.1, (hA i hi).2.1⟩) w 0 FU none (by omega) (by rw [FUe]; omega) (fun j h => by cases h)) ?_
      rw [hn]
      show (if eO none = -1 then _ else _) = _
      rw [if_pos (show eO none = -1 from rfl)]
      unfold md_fair_J291
      rw [if_pos rfl]
      show md_fair_L219 p1 p2 p3 (nI f) p5 (nI w) y7 y8 y11 y12 (nI t) K2 (fu2 + 1) (nI (max lg (xF (fun i => t - cm i) ab w))) (s0 + nI (sF (fun i => t - cm i) ab w)) (nI (c 6 + sF wg ab w)) (nI (sF (fun _ => 1) ab w)) 0 Y = _
      rw [md_fair_L219, if_pos rfl]
    · obtain ⟨-, -, -, g4, -, -, -, g8, -⟩ := hA i hi
      refine ⟨g4, ?_⟩
      rw [g8]
      exact if_pos (hall i hi)
  | succ m ih =>
    intro k fu fu2 X Y ak ab hk hf1 hf2 hs hP hB
    obtain ⟨fu, rfl⟩ : ∃ f, fu = f + 1 := ⟨fu - 1, by omega⟩
    obtain ⟨fu2, rfl⟩ : ∃ f, fu2 = f + 1 := ⟨fu2 - 1, by omega⟩
    obtain ⟨h7, hA, hM, hE⟩ := id hP
    obtain ⟨j, hj⟩ : ∃ j, bF nb ak w 0 none = some j := by
      cases hb : bF nb ak w 0 none with
      | some j => exact ⟨j, rfl⟩
      | none =>
        have := all_sF (p := ak) w (fun i hi => (bF_none w 0 none hb).2 i (Nat.zero_le _) (by omega))
        omega
    obtain ⟨j1, j2⟩ := bF_ok (w := w) w 0 none (by omega) (fun j h => by cases h) j hj
    obtain ⟨g1, g2, g3, g4, g5, g6, g7, g8, g9⟩ := hA j j1
    have hwg := hg j j1
    have hb0 : ab j = false := by
      cases h : ab j
      · rfl
      · rw [g9 h] at j2
        exact Bool.noConfusion j2
    have hsL := sF_le (f := wg) (p := ab) (B := 90) w (fun i hi => (hg i hi).1)
    have hw90 : w * 90 ≤ 3600 := Nat.mul_le_mul_right 90 hw
    have hM3 : MV (wr X 93 j 1) c := MVk hM fun r i q => wr_ne (by omega)
    have kn := k_next1 (M := X) h7 hw (fun i hi => ⟨(hA i hi).1, (hA i hi).2.1, (hA i hi).2.2.1⟩) hj
    have hsk : sF (fun _ => 1) (pz ak j) w = k + 1 := by rw [sF_set j2 w j1, hs]
    have cls : mk_minutesAway_L10 (nI t) (nI f) K (fu + 1) (nI (sF wg ab w)) (nI k) X = if gz c f (sF wg ab w + wg j) = true then mk_minutesAway_L10 (nI t) (nI f) K fu (nI (sF wg ab w + wg j)) (nI (k + 1)) (wr (wr X 93 j 1) 94 j 1) else mk_minutesAway_L10 (nI t) (nI f) K fu (nI (sF wg ab w)) (nI (k + 1)) (wr X 93 j 1) := by
      rw [mk_minutesAway_L10, h7, if_pos (by rw [n_lt (by omega) (by omega)]; omega), kn, bind_s, chk_in (by omega) (by omega), n_cl (by omega), lt1_ap, chk_in (by omega) (by omega), wr_ne (r' := 91) (by omega), g5, n_add, k_brs hM3 (by omega) hf, bind_s, show nI k + 1 = nI (k + 1) from n_add _ _]
      cases hgz : gz c f (sF wg ab w + wg j)
      · rw [if_pos (show bI false = 0 from rfl), if_neg (by decide)]
      · rw [if_neg (show ¬ bI true = 0 by decide), if_pos rfl, chk_in (by omega) (by omega), lt1_ap, chk_in (by omega) (by omega), wr_ne (r' := 91) (by omega), wr_ne (r' := 91) (by omega), g5, n_add]
    have refe : ∀ x9 x10 x15, md_fair_L219 p1 p2 p3 (nI f) p5 (nI w) y7 y8 y11 y12 (nI t) K2 (fu2 + 1) x9 x10 (nI (c 6 + sF wg ab w)) x15 1 Y = if gz c f (sF wg ab w + wg j) = true then md_fair_L219 p1 p2 p3 (nI f) p5 (nI w) y7 y8 y11 y12 (nI t) K2 fu2 (if x9 < nI (t - cm j) then nI (t - cm j) else x9) (x10 + nI (t - cm j)) (nI (c 6 + (sF wg ab w + wg j))) (x15 + 1) 1 (wr Y 15 j (-2)) else md_fair_L219 p1 p2 p3 (nI f) p5 (nI w) y7 y8 y11 y12 (nI t) K2 fu2 x9 x10 (nI (c 6 + sF wg ab w)) x15 1 (wr Y 15 j (-1)) := fun x9 x10 x15 => by
      rw [md_fair_L219, if_neg i1]
      refine Eq.trans (rqq_L hw (fun i hi => ⟨(hA i hi).2.2.2.2.2.2.2.1, (hA i hi).2.1⟩) w 0 FU none (by omega) (by rw [FUe]; omega) (fun j h => by cases h)) ?_
      rw [hj]
      show (if eO (some j) = -1 then _ else _) = _
      rw [if_neg (show ¬ eO (some j) = -1 from nI_nm (by omega))]
      show md_fair_J291 _ _ _ _ _ _ _ _ _ _ _ _ _ _ _ _ _ (nI j) 1 Y = _
      rw [r_J291 hE hM.2.2 hb hT (by omega) g6 g7 hwg.2 (by omega) hf]
    have hfm := hwg.2
    cases hgz : gz c f (sF wg ab w + wg j)
    · rw [hgz, if_neg (by decide)] at cls
      have hP' : PI (wr X 93 j 1) (wr Y 15 j (-1)) c w nb wg cm (pz ak j) ab := by
        refine ⟨by rw [wr_ne (by omega), h7], fun i hi => ?_, hM3, EY_fr hE fun i => wr_ne (by omega)⟩
        obtain ⟨v1, v2, v3, v4, v5, v6, v7, v8, v9⟩ := hA i hi
        refine ⟨by rw [wr_ne (by omega), v1], v2, ?_, by rw [wr_ne (by omega), v4], by rw [wr_ne (by omega), v5], by rw [wr_ne (by omega), v6], by rw [wr_ne (by omega), v7], ?_, fun h => by unfold pz; rw [v9 h, Bool.true_or]⟩
        · by_cases q : i = j
          · rw [q, wr_eq, pz_eq]; rfl
          · rw [wr_ne (by omega), pz_ne q, v3]
        · by_cases q : i = j
          · rw [q, wr_eq]
            unfold wnY
            rw [pz_eq, if_pos rfl, hb0, if_neg (by decide)]
          · rw [wr_ne (by omega), v8]
            unfold wnY
            rw [pz_ne q]
      obtain ⟨X', Y', ab', e1, e2, e3, e4, e5, e6⟩ := ih (k + 1) fu fu2 _ _ (pz ak j) ab (by omega) (by omega) (by omega) hsk hP' hB
      refine ⟨X', Y', ab', by rw [cls, e1], ?_, e3, e4, fun r i q => by rw [e5 r i q, wr_ne (by omega)], fun r i q => by rw [e6 r i q, wr_ne (by omega)]⟩
      rw [refe, hgz, if_neg (by decide), e2]
    · rw [hgz, if_pos rfl] at cls
      have eL : sF wg (pz ab j) w = sF wg ab w + wg j := sF_set hb0 w j1
      have eS : sF (fun i => t - cm i) (pz ab j) w = sF (fun i => t - cm i) ab w + (t - cm j) := sF_set (f := fun i => t - cm i) hb0 w j1
      have e1s : sF (fun _ => 1) (pz ab j) w = sF (fun _ => 1) ab w + 1 := sF_set (f := fun _ => 1) hb0 w j1
      have eX : xF (fun i => t - cm i) (pz ab j) w = max (xF (fun i => t - cm i) ab w) (t - cm j) := xF_set (f := fun i => t - cm i) hb0 w j1
      have hx := xF_le (f := fun i => t - cm i) (p := ab) (B := 600) w (fun i hi => by show t - cm i ≤ 600; omega)
      have hP' : PI (wr (wr X 93 j 1) 94 j 1) (wr Y 15 j (-2)) c w nb wg cm (pz ak j) (pz ab j) := by
        refine ⟨by rw [wr_ne (by omega), wr_ne (by omega), h7], fun i hi => ?_, MVk hM3 fun r i q => wr_ne (by omega), EY_fr hE fun i => wr_ne (by omega)⟩
        obtain ⟨v1, v2, v3, v4, v5, v6, v7, v8, v9⟩ := hA i hi
        refine ⟨by rw [wr_ne (by omega), wr_ne (by omega), v1], v2, ?_, ?_, by rw [wr_ne (by omega), wr_ne (by omega), v5], by rw [wr_ne (by omega), v6], by rw [wr_ne (by omega), v7], ?_, fun h => ?_⟩
        · by_cases q : i = j
          · rw [q, wr_ne (by omega), wr_eq, pz_eq]; rfl
          · rw [wr_ne (by omega), wr_ne (by omega), pz_ne q, v3]
        · by_cases q : i = j
          · rw [q, wr_eq, pz_eq]; rfl
          · rw [wr_ne (by omega), wr_ne (by omega), pz_ne q, v4]
        · by_cases q : i = j
          · rw [q, wr_eq]
            unfold wnY
            rw [pz_eq, if_pos rfl, pz_eq, if_pos rfl]
          · rw [wr_ne (by omega), v8]
            unfold wnY
            rw [pz_ne q, pz_ne q]
        · by_cases q : i = j
          · rw [q, pz_eq]
          · rw [pz_ne q] at h ⊢
            exact v9 h
      have hB' : bdd c f (sF wg (pz ab j) w) := by
        unfold gz at hgz
        rw [Bool.and_eq_true, decide_eq_true_iff, decide_eq_true_iff] at hgz
        rw [eL]
        exact Or.inr hgz
      obtain ⟨X', Y', ab', e1, e2, e3, e4, e5, e6⟩ := ih (k + 1) fu fu2 _ _ (pz ak j) (pz ab j) (by omega) (by omega) (by omega) hsk hP' hB'
      refine ⟨X', Y', ab', by rw [cls, ← eL, e1], ?_, e3, e4, fun r i q => by rw [e5 r i q, wr_ne (by omega), wr_ne (by omega)], fun r i q => by rw [e6 r i q, wr_ne (by omega)]⟩
      rw [refe, hgz, if_pos rfl, ← e2, eL, eS, e1s, eX, max_if (by omega) (by omega), ← n_add (sF (fun i => t - cm i) ab w) (t - cm j), Int32.add_assoc, show nI (sF (fun _ => 1) ab w) + 1 = nI (sF (fun _ => 1) ab w + 1) from n_add _ _, Nat.max_assoc]
