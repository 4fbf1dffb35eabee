/-! the rule: and, or, not, brackets -/
theorem isB_c {x : Int32} (h : isB x = true) : x = 0 ∨ x = 1 := by
  unfold isB at h
  rw [Bool.or_eq_true, beq_iff_eq, beq_iff_eq] at h
  exact h
theorem and_if {α : Type} (f : Int32 → α) {x y : Int32} (hx : isB x = true) (hy : isB y = true) : (if x = 0 then f 0 else if y = 0 then f 0 else f 1) = f (jn (-9) x y) := by
  rcases isB_c hx with rfl | rfl <;> rcases isB_c hy with rfl | rfl <;> rfl
theorem or_if {α : Type} (f : Int32 → α) {x y : Int32} (hx : isB x = true) (hy : isB y = true) : (if x = 0 then (if y = 0 then f 0 else f 1) else f 1) = f (jn (-10) x y) := by
  rcases isB_c hx with rfl | rfl <;> rcases isB_c hy with rfl | rfl <;> rfl
theorem and_B {x y : Int32} (hx : isB x = true) (hy : isB y = true) : isB (jn (-9) x y) = true := by
  rcases isB_c hx with rfl | rfl <;> rcases isB_c hy with rfl | rfl <;> rfl
theorem or_B {x y : Int32} (hx : isB x = true) (hy : isB y = true) : isB (jn (-10) x y) = true := by
  rcases isB_c hx with rfl | rfl <;> rcases isB_c hy with rfl | rfl <;> rfl
theorem chk_B {α : Type} {x : Int32} {o : Option α} (hx : isB x = true) : chk (isB x) o = o := by rw [hx]; rfl
def AtS (d : Nat) (A : Int32 → Mem → Option (Int32 × Mem)) (G : Mem → Option (Int32 × Mem)) : Prop := ∀ (b : Nat → Nat) (e p z : Nat) (X : Mem), e ≤ 400 → TPo X b e p → X 63 4 = nI z → z ≤ p → RdS (fun v => isB v = true) X b e p z z d (15 - 2 * d) (p + 1) (A (nI d) X) G
theorem all_tail {A : Int32 → Mem → Option (Int32 × Mem)} {G : Mem → Option (Int32 × Mem)} {b : Nat → Nat} {e z d hi : Nat} (he : e ≤ 400) (hd : d ≤ 20) (hh : 1 ≤ hi) (HI : ∀ (p z : Nat) (X : Mem), TPo X b e p → X 63 4 = nI z → z ≤ p → RdS (fun v => isB v = true) X b e p z z d hi (p + 1) (A (nI d) X) G) : ∀ m k fu fu2 (X : Mem) p n acc, e - p < m → m < fu → m < fu2 → TPo X b e p → X 63 4 = nI (z + n) → z + n ≤ p → 2 * k + 1 ≤ p → Ev (X 66) z n (hi + 1) acc → (∀ F, isB (acc F) = true) → RdS (fun v => isB v = true) X b e p z (z + n) d (hi + 1) p (bnd2 (tp_take (nI 18) X) fun v7 M6 => (if v7 = 0 then some ((1 : Int32), M6) else rd_readAll_L2 A (nI d) (fun M9 => some ((0 : Int32), M9)) fu (nI k + 1) M6)) (fun Y => md_every_L5 G (fun v1_6 M8 => chk (isB v1_6) (some (v1_6, M8))) fu2 (acc (Y 5)) Y) := by
  intro m
  induction m with
  | zero => intro k fu fu2 X p n acc h0; omega
  | succ m ih =>
    intro k fu fu2 X p n acc h0 h1 h2 hT h4 hz hk hE hA
    obtain ⟨fu, rfl⟩ : ∃ f, fu = f + 1 := ⟨fu - 1, by omega⟩
    obtain ⟨fu2, rfl⟩ : ∃ f, fu2 = f + 1 := ⟨fu2 - 1, by omega⟩
    have hpe := TPo_le hT
    have i1 : ¬ (1 : Int32) = 0 := by decide
    by_cases q : KD b e p = 18
    · have hp : p < e := KD_lt (b := b) (e := e) (p := p) (by omega)
      obtain ⟨t1, t2⟩ := k_take_yes hT (w := 18) (by omega) (by omega) q
      obtain ⟨x1, x2⟩ := nxt_gt (b := b) hp
      have m4 : mvT X 63 4 = nI (z + n) := by rw [mvT_ne (by omega), h4]
      have k1 : 0 < nI (k + 1) := by rw [show (0 : Int32) = nI 0 from rfl, n_lt (by omega) (by omega)]; omega
      rw [t1, bnd_s, if_neg (show ¬ nI 1 = 0 by decide), rd_readAll_L2, show nI k + 1 = nI (k + 1) from n_add _ _, if_pos (show nI (k + 1) < 400 by rw [show (400 : Int32) = nI 400 from rfl, n_lt (by omega) (by omega)]; omega)]
      have ref : ∀ Y a, RS Y b e a p d → RS (setA Y (beh b e p)) b e (beh b e p) (nxt b e p) d ∧ md_every_L5 G (fun v1_6 M8 => chk (isB v1_6) (some (v1_6, M8))) (fu2 + 1) (acc (Y 5)) Y = bnd2 (G (setA Y (beh b e p))) fun v6 M5 => (if acc (Y 5) = 0 then md_every_L5 G (fun v1_6 M8 => chk (isB v1_6) (some (v1_6, M8))) fu2 ((0 : Int32)) (M5) else (if v6 = 0 then md_every_L5 G (fun v1_6 M8 => chk (isB v1_6) (some (v1_6, M8))) fu2 ((0 : Int32)) (M5) else md_every_L5 G (fun v1_6 M8 => chk (isB v1_6) (some (v1_6, M8))) fu2 ((1 : Int32)) (M5))) := fun Y a hY => by
        refine ⟨rs_next hY hp, ?_⟩
        rw [md_every_L5, hY.2.1, if_pos rfl, RS_hasY hY W17 q, bnd_s, if_neg i1]
      rcases HI _ _ _ t2 m4 (by omega) with ⟨X2, p2, n2, v2, l1, l2, l3, l4, l5, l6, l7, l8, l9, l10⟩ | ⟨X2, q2, z', l1, l2, l3, l4, l5, l6, l7⟩
      · have hp2 := TPo_le l3
        rw [l1, bnd_s, if_neg i1, if_pos k1, k_pts l4 (by omega), bind_s, show (18 : Int32) = nI 18 from rfl]
        have e1 : ∀ i, i < z + n → putS X2 (z + n + n2) (-9) 66 i = X 66 i := fun i hi => by
          rw [putS_F _ _ (by omega) (by omega) (by omega), l7 _ _ (by omega) (by omega) (by omega), mvT_ne (by omega)]
        have e2 : ∀ i, i < z + n + n2 → putS X2 (z + n + n2) (-9) 66 i = X2 66 i := fun i hi => putS_F _ _ (by omega) (by omega) (by omega)
        have hE3 : Ev (putS X2 (z + n + n2) (-9) 66) z (n + n2 + 1) (hi + 1) (fun F => jn (-9) (acc F) (v2 F)) := Ev_bin (Ev_cong hE fun i a d => e1 i d) (Ev_cong l8 fun i a d => e2 i d) putS_s (by decide) (by omega) (by omega) (by omega)
        have := ih (k + 1) fu fu2 _ p2 (n + n2 + 1) _ (by omega) (by omega) (by omega) (putS_T l3) (by rw [putS_4, show z + n + n2 + 1 = z + (n + n2 + 1) by omega]) (by omega) (by omega) hE3 (fun F => and_B (hA F) (l9 F))
        refine RdS_step this (FrC_tr FrC_mv (FrC_tr l7 putS_F (by omega)) (Nat.le_refl _)) (by omega) (by omega) (by omega) fun Y a hY => ?_
        obtain ⟨r1, r2⟩ := ref Y a hY
        obtain ⟨a2, u1, u2, u3⟩ := l10 _ _ r1
        refine ⟨a2, RS_A hY u1 u2, ?_⟩
        show md_every_L5 G (fun v1_6 M8 => chk (isB v1_6) (some (v1_6, M8))) (fu2 + 1) (acc (Y 5)) Y = _
        rw [r2, u3, bnd_s, sA_sA, setA_5, setA_5]
        exact and_if (fun x => md_every_L5 G (fun v1_6 M8 => chk (isB v1_6) (some (v1_6, M8))) fu2 x (setA Y a2)) (hA (Y 5)) (l9 (Y 5))
      · rw [l1, bnd_s, if_pos rfl]
        refine Or.inr ⟨X2, q2, z', rfl, l2, l3, by omega, l5, FrC_tr FrC_mv l6 (Nat.le_refl _), fun Y a hY => ?_⟩
        obtain ⟨r1, r2⟩ := ref Y a hY
        obtain ⟨v, Y', u1, u2, u3, u4⟩ := l7 _ _ r1
        refine ⟨jn (-9) (acc (Y 5)) v, Y', and_B (hA _) u1, ?_, u3, FrR_tr FrR_A u4⟩
        obtain ⟨fu2, rfl⟩ : ∃ f, fu2 = f + 1 := ⟨fu2 - 1, by omega⟩
        show md_every_L5 G (fun v1_6 M8 => chk (isB v1_6) (some (v1_6, M8))) (fu2 + 1 + 1) (acc (Y 5)) Y = _
        rw [r2, u2, bnd_s]
        refine (and_if (fun x => md_every_L5 G (fun v1_6 M8 => chk (isB v1_6) (some (v1_6, M8))) (fu2 + 1) x Y') (hA (Y 5)) u1).trans ?_
        show md_every_L5 G (fun v1_6 M8 => chk (isB v1_6) (some (v1_6, M8))) (fu2 + 1) (jn (-9) (acc (Y 5)) v) Y' = _
        rw [md_every_L5, if_neg (BQ_f u3 he), chk_B (and_B (hA _) u1)]
    · rw [k_take_no hT (w := 18) (by omega) q, bnd_s, if_pos (show nI 0 = 0 from rfl)]
      refine Or.inl ⟨X, p, n, acc, rfl, Nat.le_refl _, hT, h4, by omega, Nat.le_refl _, FrC_rfl, hE, hA, fun Y a hY => ?_⟩
      obtain ⟨a1, a2, a3, a4⟩ := RS_p hY
      refine ⟨p, a2, a3, ?_⟩
      show md_every_L5 G (fun v1_6 M8 => chk (isB v1_6) (some (v1_6, M8))) (fu2 + 1) (acc (Y 5)) Y = _
      rw [md_every_L5, hY.2.1, if_pos rfl, RS_hasN hY W17 q, bnd_s, if_pos rfl, chk_B (hA _)]
theorem all_sim {A : Int32 → Mem → Option (Int32 × Mem)} {G : Mem → Option (Int32 × Mem)} {b : Nat → Nat} {e z d hi p : Nat} {X : Mem} (he : e ≤ 400) (hd : d ≤ 20) (hh : 1 ≤ hi) (HI : ∀ (p z : Nat) (X : Mem), TPo X b e p → X 63 4 = nI z → z ≤ p → RdS (fun v => isB v = true) X b e p z z d hi (p + 1) (A (nI d) X) G) (hT : TPo X b e p) (h4 : X 63 4 = nI z) (hz : z ≤ p) : RdS (fun v => isB v = true) X b e p z z d (hi + 1) (p + 1) (rd_readAll A (nI d) X) (md_every G) := by
  have hpe := TPo_le hT
  have i1 : ¬ (1 : Int32) = 0 := by decide
  unfold rd_readAll
  rw [show FU = 999999 + 1 from rfl, rd_readAll_L2, if_pos (by decide)]
  rcases HI _ _ _ hT h4 hz with ⟨X2, p2, n2, v2, l1, l2, l3, l4, l5, l6, l7, l8, l9, l10⟩ | ⟨X2, q2, z', l1, l2, l3, l4, l5, l6, l7⟩
  · have hp2 := TPo_le l3
    rw [l1, bnd_s, if_neg i1, if_neg (by decide), show (18 : Int32) = nI 18 from rfl, show (0 : Int32) + 1 = nI 0 + 1 from rfl]
    have := all_tail he hd hh HI (e - p2 + 1) 0 999999 FU X2 p2 n2 v2 (by omega) (by omega) (by rw [FUe]; omega) l3 l4 (by omega) (by omega) (Ev_mono l8 (by omega)) l9
    refine RdS_step this l7 (by omega) (by omega) (by omega) fun Y a hY => ?_
    obtain ⟨a2, u1, u2, u3⟩ := l10 _ _ hY
    refine ⟨a2, RS_A hY u1 u2, ?_⟩
    unfold md_every
    rw [u3, bnd_s, setA_5]
  · rw [l1, bnd_s, if_pos rfl]
    refine Or.inr ⟨X2, q2, z', rfl, l2, l3, l4, l5, l6, fun Y a hY => ?_⟩
    obtain ⟨v, Y', u1, u2, u3, u4⟩ := l7 _ _ hY
    refine ⟨v, Y', u1, ?_, u3, u4⟩
    unfold md_every
    rw [u2, bnd_s, show FU = 999999 + 1 from rfl, md_every_L5, if_neg (BQ_f u3 he), chk_B u1]
theorem any_tail {A : Int32 → Mem → Option (Int32 × Mem)} {G : Mem → Option (Int32 × Mem)} {b : Nat → Nat} {e z d hi : Nat} (he : e ≤ 400) (hd : d ≤ 20) (hh : 1 ≤ hi) (HI : ∀ (p z : Nat) (X : Mem), TPo X b e p → X 63 4 = nI z → z ≤ p → RdS (fun v => isB v = true) X b e p z z d hi (p + 1) (rd_readAll A (nI d) X) (md_every G)) : ∀ m k fu fu2 (X : Mem) p n acc, e - p < m → m < fu → m < fu2 → TPo X b e p → X 63 4 = nI (z + n) → z + n ≤ p → 2 * k + 1 ≤ p → Ev (X 66) z n (hi + 1) acc → (∀ F, isB (acc F) = true) → RdS (fun v => isB v = true) X b e p z (z + n) d (hi + 1) p (bnd2 (tp_take (nI 17) X) fun v7 M6 => (if v7 = 0 then some ((1 : Int32), M6) else rd_readAny_L2 A (nI d) (fun M9 => some ((0 : Int32), M9)) fu (nI k + 1) M6)) (fun Y => md_some_L5 G (fun v1_6 M8 => chk (isB v1_6) (some (v1_6, M8))) fu2 (acc (Y 5)) Y) := by
  intro m
  induction m with
  | zero => intro k fu fu2 X p n acc h0; omega
  | succ m ih =>
    intro k fu fu2 X p n acc h0 h1 h2 hT h4 hz hk hE hA
    obtain ⟨fu, rfl⟩ : ∃ f, fu = f + 1 := ⟨fu - 1, by omega⟩
    obtain ⟨fu2, rfl⟩ : ∃ f, fu2 = f + 1 := ⟨fu2 - 1, by omega⟩
    have hpe := TPo_le hT
    have i1 : ¬ (1 : Int32) = 0 := by decide
    by_cases q : KD b e p = 17
    · have hp : p < e := KD_lt (b := b) (e := e) (p := p) (by omega)
      obtain ⟨t1, t2⟩ := k_take_yes hT (w := 17) (by omega) (by omega) q
      obtain ⟨x1, x2⟩ := nxt_gt (b := b) hp
      have m4 : mvT X 63 4 = nI (z + n) := by rw [mvT_ne (by omega), h4]
      have k1 : 0 < nI (k + 1) := by rw [show (0 : Int32) = nI 0 from rfl, n_lt (by omega) (by omega)]; omega
      rw [t1, bnd_s, if_neg (show ¬ nI 1 = 0 by decide), rd_readAny_L2, show nI k + 1 = nI (k + 1) from n_add _ _, if_pos (show nI (k + 1) < 400 by rw [show (400 : Int32) = nI 400 from rfl, n_lt (by omega) (by omega)]; omega)]
      have ref : ∀ Y a, RS Y b e a p d → RS (setA Y (beh b e p)) b e (beh b e p) (nxt b e p) d ∧ md_some_L5 G (fun v1_6 M8 => chk (isB v1_6) (some (v1_6, M8))) (fu2 + 1) (acc (Y 5)) Y = bnd2 ((md_every G) (setA Y (beh b e p))) fun v6 M5 => (if acc (Y 5) = 0 then (if v6 = 0 then md_some_L5 G (fun v1_6 M8 => chk (isB v1_6) (some (v1_6, M8))) fu2 ((0 : Int32)) (M5) else md_some_L5 G (fun v1_6 M8 => chk (isB v1_6) (some (v1_6, M8))) fu2 ((1 : Int32)) (M5)) else md_some_L5 G (fun v1_6 M8 => chk (isB v1_6) (some (v1_6, M8))) fu2 ((1 : Int32)) (M5)) := fun Y a hY => by
        refine ⟨rs_next hY hp, ?_⟩
        rw [md_some_L5, hY.2.1, if_pos rfl, RS_hasY hY W18 q, bnd_s, if_neg i1]
      rcases HI _ _ _ t2 m4 (by omega) with ⟨X2, p2, n2, v2, l1, l2, l3, l4, l5, l6, l7, l8, l9, l10⟩ | ⟨X2, q2, z', l1, l2, l3, l4, l5, l6, l7⟩
      · have hp2 := TPo_le l3
        rw [l1, bnd_s, if_neg i1, if_pos k1, k_pts l4 (by omega), bind_s, show (17 : Int32) = nI 17 from rfl]
        have e1 : ∀ i, i < z + n → putS X2 (z + n + n2) (-10) 66 i = X 66 i := fun i hi => by
          rw [putS_F _ _ (by omega) (by omega) (by omega), l7 _ _ (by omega) (by omega) (by omega), mvT_ne (by omega)]
        have e2 : ∀ i, i < z + n + n2 → putS X2 (z + n + n2) (-10) 66 i = X2 66 i := fun i hi => putS_F _ _ (by omega) (by omega) (by omega)
        have hE3 : Ev (putS X2 (z + n + n2) (-10) 66) z (n + n2 + 1) (hi + 1) (fun F => jn (-10) (acc F) (v2 F)) := Ev_bin (Ev_cong hE fun i a d => e1 i d) (Ev_cong l8 fun i a d => e2 i d) putS_s (by decide) (by omega) (by omega) (by omega)
        have := ih (k + 1) fu fu2 _ p2 (n + n2 + 1) _ (by omega) (by omega) (by omega) (putS_T l3) (by rw [putS_4, show z + n + n2 + 1 = z + (n + n2 + 1) by omega]) (by omega) (by omega) hE3 (fun F => or_B (hA F) (l9 F))
        refine RdS_step this (FrC_tr FrC_mv (FrC_tr l7 putS_F (by omega)) (Nat.le_refl _)) (by omega) (by omega) (by omega) fun Y a hY => ?_
        obtain ⟨r1, r2⟩ := ref Y a hY
        obtain ⟨a2, u1, u2, u3⟩ := l10 _ _ r1
        refine ⟨a2, RS_A hY u1 u2, ?_⟩
        show md_some_L5 G (fun v1_6 M8 => chk (isB v1_6) (some (v1_6, M8))) (fu2 + 1) (acc (Y 5)) Y = _
        rw [r2, u3, bnd_s, sA_sA, setA_5, setA_5]
        exact or_if (fun x => md_some_L5 G (fun v1_6 M8 => chk (isB v1_6) (some (v1_6, M8))) fu2 x (setA Y a2)) (hA (Y 5)) (l9 (Y 5))
      · rw [l1, bnd_s, if_pos rfl]
        refine Or.inr ⟨X2, q2, z', rfl, l2, l3, by omega, l5, FrC_tr FrC_mv l6 (Nat.le_refl _), fun Y a hY => ?_⟩
        obtain ⟨r1, r2⟩ := ref Y a hY
        obtain ⟨v, Y', u1, u2, u3, u4⟩ := l7 _ _ r1
        refine ⟨jn (-10) (acc (Y 5)) v, Y', or_B (hA _) u1, ?_, u3, FrR_tr FrR_A u4⟩
        obtain ⟨fu2, rfl⟩ : ∃ f, fu2 = f + 1 := ⟨fu2 - 1, by omega⟩
        show md_some_L5 G (fun v1_6 M8 => chk (isB v1_6) (some (v1_6, M8))) (fu2 + 1 + 1) (acc (Y 5)) Y = _
        rw [r2, u2, bnd_s]
        refine (or_if (fun x => md_some_L5 G (fun v1_6 M8 => chk (isB v1_6) (some (v1_6, M8))) (fu2 + 1) x Y') (hA (Y 5)) u1).trans ?_
        show md_some_L5 G (fun v1_6 M8 => chk (isB v1_6) (some (v1_6, M8))) (fu2 + 1) (jn (-10) (acc (Y 5)) v) Y' = _
        rw [md_some_L5, if_neg (BQ_f u3 he), chk_B (or_B (hA _) u1)]
    · rw [k_take_no hT (w := 17) (by omega) q, bnd_s, if_pos (show nI 0 = 0 from rfl)]
      refine Or.inl ⟨X, p, n, acc, rfl, Nat.le_refl _, hT, h4, by omega, Nat.le_refl _, FrC_rfl, hE, hA, fun Y a hY => ?_⟩
      obtain ⟨a1, a2, a3, a4⟩ := RS_p hY
      refine ⟨p, a2, a3, ?_⟩
      show md_some_L5 G (fun v1_6 M8 => chk (isB v1_6) (some (v1_6, M8))) (fu2 + 1) (acc (Y 5)) Y = _
      rw [md_some_L5, hY.2.1, if_pos rfl, RS_hasN hY W18 q, bnd_s, if_pos rfl, chk_B (hA _)]
theorem any_sim {A : Int32 → Mem → Option (Int32 × Mem)} {G : Mem → Option (Int32 × Mem)} {b : Nat → Nat} {e z d hi p : Nat} {X : Mem} (he : e ≤ 400) (hd : d ≤ 20) (hh : 1 ≤ hi) (HI : ∀ (p z : Nat) (X : Mem), TPo X b e p → X 63 4 = nI z → z ≤ p → RdS (fun v => isB v = true) X b e p z z d hi (p + 1) (rd_readAll A (nI d) X) (md_every G)) (hT : TPo X b e p) (h4 : X 63 4 = nI z) (hz : z ≤ p) : RdS (fun v => isB v = true) X b e p z z d (hi + 1) (p + 1) (rd_readAny A (nI d) X) (md_some G) := by
  have hpe := TPo_le hT
  have i1 : ¬ (1 : Int32) = 0 := by decide
  unfold rd_readAny
  rw [show FU = 999999 + 1 from rfl, rd_readAny_L2, if_pos (by decide)]
  rcases HI _ _ _ hT h4 hz with ⟨X2, p2, n2, v2, l1, l2, l3, l4, l5, l6, l7, l8, l9, l10⟩ | ⟨X2, q2, z', l1, l2, l3, l4, l5, l6, l7⟩
  · have hp2 := TPo_le l3
    rw [l1, bnd_s, if_neg i1, if_neg (by decide), show (17 : Int32) = nI 17 from rfl, show (0 : Int32) + 1 = nI 0 + 1 from rfl]
    have := any_tail he hd hh HI (e - p2 + 1) 0 999999 FU X2 p2 n2 v2 (by omega) (by omega) (by rw [FUe]; omega) l3 l4 (by omega) (by omega) (Ev_mono l8 (by omega)) l9
    refine RdS_step this l7 (by omega) (by omega) (by omega) fun Y a hY => ?_
    obtain ⟨a2, u1, u2, u3⟩ := l10 _ _ hY
    refine ⟨a2, RS_A hY u1 u2, ?_⟩
    unfold md_some
    rw [u3, bnd_s, setA_5]
  · rw [l1, bnd_s, if_pos rfl]
    refine Or.inr ⟨X2, q2, z', rfl, l2, l3, l4, l5, l6, fun Y a hY => ?_⟩
    obtain ⟨v, Y', u1, u2, u3, u4⟩ := l7 _ _ hY
    refine ⟨v, Y', u1, ?_, u3, u4⟩
    unfold md_some
    rw [u2, bnd_s, show FU = 999999 + 1 from rfl, md_some_L5, if_neg (BQ_f u3 he), chk_B u1]
theorem dp_eq {Y : Mem} {d x a : Nat} (h : Y 0 11 = nI d) : wr (setA (wr (setA Y x) 0 11 (nI (d + 1))) a) 0 11 (nI d) = setA Y a := funext fun r => funext fun i => by
  unfold setA
  by_cases q : r = 0 ∧ i = 11
  · obtain ⟨rfl, rfl⟩ := q
    rw [wr_eq, wr_ne (by omega), h]
  · by_cases q2 : r = 0 ∧ i = 9
    · obtain ⟨rfl, rfl⟩ := q2
      rw [wr_ne (by omega), wr_eq, wr_eq]
    · rw [wr_ne q, wr_ne q2, wr_ne q, wr_ne q2, wr_ne q2]
theorem RS_dp {Y : Mem} {b : Nat → Nat} {e a p d d' : Nat} (h : RS Y b e a p d) : RS (wr Y 0 11 (nI d')) b e a p d' := ⟨LTx_cong h.1 fun r i q => wr_ne (by omega), by rw [wr_ne (by omega), h.2.1], by rw [wr_ne (by omega), h.2.2.1], h.2.2.2.1, h.2.2.2.2.1, wr_eq⟩
theorem dp_5 {Y : Mem} {v : Int32} : wr Y 0 11 v 5 = Y 5 := funext fun i => wr_ne (by omega)
theorem FrR_dp {Y : Mem} {v : Int32} : FrR Y (wr Y 0 11 v) := fun r i h => wr_ne (by omega)
theorem FrR_9 {Y : Mem} {v : Int32} : FrR Y (wr Y 0 9 v) := fun r i h => wr_ne (by omega)
theorem not_B {x : Int32} (h : isB x = true) : isB (1 - x) = true := by
  rcases isB_c h with rfl | rfl <;> rfl
theorem atom_S_sim {A : Int32 → Mem → Option (Int32 × Mem)} {G : Mem → Option (Int32 × Mem)} {d : Nat} (hd : d ≤ 6) (HI : d < 6 → AtS (d + 1) A G) : AtS d (rd_readAtom_S A) (md_atom_S G) := by
  intro b e p z X he hT h4 hz
  have hpe := TPo_le hT
  have hl := KD_le b e p
  have i1 : ¬ (1 : Int32) = 0 := by decide
  have d6 : nI d < 6 ↔ d < 6 := by rw [show (6 : Int32) = nI 6 from rfl, n_lt (by omega) (by omega)]
  have d6' : nI d = 6 ↔ d = 6 := by rw [show (6 : Int32) = nI 6 from rfl, n_eq (by omega) (by omega)]
  unfold rd_readAtom_S
  rw [k_thing hT, bind_s, show (19 : Int32) = nI 19 from rfl, show (25 : Int32) = nI 25 from rfl, teq_n (by omega) (by omega), teq_n (by omega) (by omega)]
  have s0 : ∀ Y a, RS Y b e a p d → md_atom_S G Y = bnd2 (md_has 12 (setA Y p)) fun v3 M2 => (if v3 = 0 then bnd2 (md_isSign ((40 : Int32)) M2) fun v19 M18 => (if v19 = 0 then bnd2 (md_plain M18) fun v21 M20 => chk (isB v21) (some (v21, M20)) else md_atom_J44 G (nI p) (v3) M18) else md_atom_J44 G (nI p) (v3) M2) := fun Y a hY => by
    obtain ⟨s1, s2⟩ := RS_skip hY
    unfold md_atom_S
    rw [hY.2.1, if_pos rfl, s1, bind_s, setA_9]
  have J6 : ∀ Y a a2 v, RS Y b e a p d → d = 6 → md_atom_J44 G (nI p) v (setA Y a2) = some (0, wr (setA Y a2) 0 10 (nI p)) := fun Y a a2 v hY h6 => by
    unfold md_atom_J44
    have e11 : setA Y a2 0 11 = nI d := by unfold setA; rw [wr_ne (by omega), hY.2.2.2.2.2]
    rw [e11, if_pos (d6'.mpr h6), r_wrong _ (by rw [setA_10, hY.2.1]), bind_s]
  by_cases q19 : KD b e p = 19
  · have hp : p < e := KD_lt (b := b) (e := e) (p := p) (by omega)
    obtain ⟨x1, x2⟩ := nxt_gt (b := b) hp
    obtain ⟨t1, t2⟩ := k_take_yes hT (w := 19) (by omega) (by omega) q19
    have ref : ∀ Y a, RS Y b e a p d → md_atom_S G Y = md_atom_J44 G (nI p) 1 (setA Y (beh b e p)) := fun Y a hY => by
      rw [s0 Y a hY, RS_hasY (RS_skip hY).2 W12 q19, bnd_s, if_neg i1, sA_sA]
    rw [if_pos (decide_eq_true q19)]
    unfold rd_readAtom_J22
    by_cases h6 : d < 6
    · rw [if_pos (d6.mpr h6)]
      unfold rd_readAtom_J30
      have m4 : mvT X 63 4 = nI z := by rw [mvT_ne (by omega), h4]
      rw [show (25 : Int32) = nI 25 from rfl, k_take_no hT (w := 25) (by omega) (by omega), bnd_s, if_pos (show nI 0 = 0 from rfl), show (19 : Int32) = nI 19 from rfl, t1, bnd_s, if_neg (show ¬ nI 1 = 0 by decide), show nI d + 1 = nI (d + 1) from n_add _ _]
      have ref2 : ∀ Y a, RS Y b e a p d → RS (wr (setA Y (beh b e p)) 0 11 (nI (d + 1))) b e (beh b e p) (nxt b e p) (d + 1) ∧ md_atom_S G Y = bnd2 (G (wr (setA Y (beh b e p)) 0 11 (nI (d + 1)))) fun v14 M13 => (if v14 = 0 then some ((1 : Int32), wr M13 0 11 ((M13 0 11) - (1 : Int32))) else some ((0 : Int32), wr M13 0 11 ((M13 0 11) - (1 : Int32)))) := fun Y a hY => by
        have e11 : setA Y (beh b e p) 0 11 = nI d := by unfold setA; rw [wr_ne (by omega), hY.2.2.2.2.2]
        refine ⟨RS_dp (rs_next hY hp), ?_⟩
        rw [ref Y a hY]
        unfold md_atom_J44
        rw [e11, if_neg (fun h => by have := d6'.mp h; omega), lt1_ap, if_neg i1, show nI d + 1 = nI (d + 1) from n_add _ _]
        rfl
      rcases HI h6 b e (nxt b e p) z (mvT X) he t2 m4 (by omega) with ⟨X2, p2, n2, v2, l1, l2, l3, l4, l5, l6, l7, l8, l9, l10⟩ | ⟨X2, q2, z', l1, l2, l3, l4, l5, l6, l7⟩
      · have hp2 := TPo_le l3
        rw [l1, bnd_s, k_pts l4 (by omega), bind_s, chk_B rfl]
        have hE3 : Ev (putS X2 (z + n2) (-5) 66) z (n2 + 1) (15 - 2 * d) (fun F => 1 - v2 F) := Ev_not (Ev_mono (Ev_cong l8 fun i a d => putS_F _ _ (by omega) (by omega) (by omega)) (by omega)) putS_s (by omega)
        refine Or.inl ⟨_, p2, n2 + 1, _, rfl, by omega, putS_T l3, by rw [putS_4, show z + n2 + 1 = z + (n2 + 1) by omega], by omega, by omega, FrC_tr FrC_mv (FrC_tr l7 putS_F (by omega)) (Nat.le_refl _), hE3, fun F => not_B (l9 F), fun Y a hY => ?_⟩
        obtain ⟨r1, r2⟩ := ref2 Y a hY
        obtain ⟨a2, u1, u2, u3⟩ := l10 _ _ r1
        refine ⟨a2, u1, u2, ?_⟩
        have e11 : setA (wr (setA Y (beh b e p)) 0 11 (nI (d + 1))) a2 0 11 = nI (d + 1) := by unfold setA; rw [wr_ne (by omega), wr_eq]
        rw [r2, u3, bnd_s, e11, dp_5, setA_5, show nI (d + 1) - 1 = nI d by rw [show (1 : Int32) = nI 1 from rfl, n_sub (by omega)]; rfl, dp_eq hY.2.2.2.2.2]
        rcases isB_c (l9 (Y 5)) with h | h
        · rw [h, if_pos rfl]; rfl
        · rw [h, if_neg i1]; rfl
      · obtain ⟨X3, z3, g1, g2, g3, g4, g5, g6⟩ := k_pts2 (s := -5) l3 l5
        rw [l1, bnd_s, g1, bind_s, chk_B rfl]
        refine Or.inr ⟨X3, q2, z3, rfl, g6 _ _ _ l2, g4, by omega, g3, FrC_tr FrC_mv (FrC_tr l6 g5 (by omega)) (Nat.le_refl _), fun Y a hY => ?_⟩
        obtain ⟨r1, r2⟩ := ref2 Y a hY
        obtain ⟨v, Y', u1, ⟨u2, ⟨u3a, u3b, a9, u3c, u3d⟩, u4⟩⟩ := l7 _ _ r1
        have hB : BQ (wr Y' 0 11 (Y' 0 11 - 1)) e q2 d := ⟨by rw [wr_ne (by omega), u3a], u3b, a9, by omega, by rw [wr_ne (by omega), u3d]⟩
        refine ⟨if v = 0 then 1 else 0, _, ?_, ?_, hB, FrR_tr FrR_A (FrR_tr FrR_dp (FrR_tr u4 FrR_dp))⟩
        · by_cases q : v = 0
          · rw [if_pos q]; rfl
          · rw [if_neg q]; rfl
        · rw [r2, u2, bnd_s]
          by_cases q : v = 0
          · rw [if_pos q, if_pos q]
          · rw [if_neg q, if_neg q]
    · rw [if_neg (fun h => h6 (d6.mp h))]
      refine Or.inr ⟨X, p, z, rfl, hT, h4, Nat.le_refl _, by omega, FrC_rfl, fun Y a hY => ?_⟩
      refine ⟨0, _, rfl, (ref Y a hY).trans (J6 Y _ _ _ hY (by omega)), BQ_B (by have := (beh_gt (b := b) hp).2; omega) hpe, FrR_B⟩
  rw [if_neg (by rw [decide_eq_false q19]; decide)]
  by_cases q25 : KD b e p = 25
  · have hp : p < e := KD_lt (b := b) (e := e) (p := p) (by omega)
    obtain ⟨x1, x2⟩ := nxt_gt (b := b) hp
    obtain ⟨t1, t2⟩ := k_take_yes hT (w := 25) (by omega) (by omega) q25
    have bp : beh b e p = p + 1 := ((sign_KD (b := b) (e := e) (p := p) S40).2 ((sign_KD (b := b) (e := e) (p := p) S40).1.mpr q25))
    have ref : ∀ Y a, RS Y b e a p d → md_atom_S G Y = md_atom_J44 G (nI p) 0 (setA Y p) := fun Y a hY => by
      obtain ⟨s1, s2⟩ := RS_skip hY
      obtain ⟨u1, u2, u3⟩ := RS_sgnY s2 S40 (by omega) q25
      rw [s0 Y a hY, RS_hasN s2 W12 q19, bnd_s, if_pos rfl, sA_sA, show (40 : Int32) = nI 40 from rfl, u1, bnd_s, if_neg i1, sA_sA]
    rw [if_pos (decide_eq_true q25)]
    unfold rd_readAtom_J22
    by_cases h6 : d < 6
    · rw [if_pos (d6.mpr h6)]
      unfold rd_readAtom_J30
      have m4 : mvT X 63 4 = nI z := by rw [mvT_ne (by omega), h4]
      rw [show (25 : Int32) = nI 25 from rfl, t1, bnd_s, if_neg (show ¬ nI 1 = 0 by decide), show nI d + 1 = nI (d + 1) from n_add _ _]
      have ref2 : ∀ Y a, RS Y b e a p d → RS (setA (wr (setA Y p) 0 11 (nI (d + 1))) (p + 1)) b e (p + 1) (nxt b e p) (d + 1) ∧ md_atom_S G Y = bnd2 (md_some G (setA (wr (setA Y p) 0 11 (nI (d + 1))) (p + 1))) fun v7 M6 => (if (M6 0 10) = (-1 : Int32) then bnd2 (md_isSign ((41 : Int32)) M6) fun v11 M10 => (if v11 = 0 then (md_wrong ((M10 0 9)) M10).bind fun M12 => md_atom_J132 G (v7) M12 else md_atom_J132 G (v7) M10) else md_atom_J132 G (v7) M6) := fun Y a hY => by
        have e11 : setA Y p 0 11 = nI d := by unfold setA; rw [wr_ne (by omega), hY.2.2.2.2.2]
        have e9 : wr (setA Y p) 0 11 (nI (d + 1)) 0 9 = nI p := by rw [wr_ne (by omega), setA_9]
        refine ⟨RS_A (RS_dp (RS_skip hY).2) (by omega) (by rw [← bp]; rfl), ?_⟩
        rw [ref Y a hY]
        unfold md_atom_J44
        rw [e11, if_neg (fun h => by have := d6'.mp h; omega), lt1_ap, if_pos rfl, show nI d + 1 = nI (d + 1) from n_add _ _, lt1_ap, e9, show nI p + 1 = nI (p + 1) from n_add _ _]
        rfl
      rcases any_sim (A := A) (G := G) (d := d + 1) (hi := 15 - 2 * (d + 1) + 1) he (by omega) (by omega) (fun p z X a1 a2 a3 => all_sim (A := A) (G := G) (b := b) (e := e) (d := d + 1) (hi := 15 - 2 * (d + 1)) he (by omega) (by omega) (fun p z X a1 a2 a3 => HI h6 b e p z X he a1 a2 a3) a1 a2 a3) t2 m4 (by omega) with ⟨X2, p2, n2, v2, l1, l2, l3, l4, l5, l6, l7, l8, l9, l10⟩ | ⟨X2, q2, z', l1, l2, l3, l4, l5, l6, l7⟩
      · have hp2 := TPo_le l3
        rw [l1, bnd_s, if_neg i1, show (26 : Int32) = nI 26 from rfl]
        by_cases q26 : KD b e p2 = 26
        · have hp3 : p2 < e := KD_lt (b := b) (e := e) (p := p2) (by omega)
          obtain ⟨y1, y2⟩ := nxt_gt (b := b) hp3
          obtain ⟨w1, w2⟩ := k_take_yes l3 (w := 26) (by omega) (by omega) q26
          rw [w1, bnd_s, if_neg (show ¬ nI 1 = 0 by decide)]
          refine Or.inl ⟨_, nxt b e p2, n2, v2, rfl, by omega, w2, by rw [mvT_ne (by omega), l4], by omega, by omega, FrC_tr FrC_mv (FrC_tr l7 FrC_mv (by omega)) (Nat.le_refl _), Ev_mono (Ev_cong l8 fun i a d => mvT_ne (by omega)) (by omega), l9, fun Y a hY => ?_⟩
          obtain ⟨r1, r2⟩ := ref2 Y a hY
          obtain ⟨a2, u1, u2, u3⟩ := l10 _ _ r1
          have r3 := RS_A r1 u1 u2
          obtain ⟨o1, o2, o3⟩ := RS_sgnY r3 S41 (by omega) q26
          refine ⟨beh b e p2, (beh_gt hp3).2, rfl, ?_⟩
          rw [r2, u3, bnd_s, r3.2.1, if_pos rfl, show (41 : Int32) = nI 41 from rfl, o1, bnd_s, if_neg i1]
          unfold md_atom_J132
          have e11 : ∀ x, setA (wr (setA Y p) 0 11 (nI (d + 1))) x 0 11 = nI (d + 1) := fun x => by unfold setA; rw [wr_ne (by omega), wr_eq]
          rw [sA_sA, sA_sA, lt1_ap, setA_9, show nI p2 + 1 = nI (p2 + 1) from n_add _ _, show wr (setA (wr (setA Y p) 0 11 (nI (d + 1))) p2) 0 9 (nI (p2 + 1)) = setA (wr (setA Y p) 0 11 (nI (d + 1))) (p2 + 1) from wr_wr, lt1_ap, e11, show nI (d + 1) - 1 = nI d by rw [show (1 : Int32) = nI 1 from rfl, n_sub (by omega)]; rfl, dp_eq hY.2.2.2.2.2, setA_5, dp_5, setA_5, chk_B (l9 _), o2]
        · rw [k_take_no l3 (w := 26) (by omega) q26, bnd_s, if_pos (show nI 0 = 0 from rfl)]
          refine Or.inr ⟨X2, p2, z + n2, rfl, l3, l4, by omega, by omega, FrC_tr FrC_mv l7 (Nat.le_refl _), fun Y a hY => ?_⟩
          obtain ⟨r1, r2⟩ := ref2 Y a hY
          obtain ⟨a2, u1, u2, u3⟩ := l10 _ _ r1
          have r3 := RS_A r1 u1 u2
          have r4 := RS_A r1 hp2 (RS_p r3).2.2.1
          rw [r2, u3, bnd_s, r3.2.1, if_pos rfl, show (41 : Int32) = nI 41 from rfl, RS_sgnN r3 S41 (by omega) q26, bnd_s, if_pos rfl, sA_sA, sA_sA, setA_9, r_wrong _ (by rw [setA_10, wr_ne (by omega), setA_10, hY.2.1]), bind_s]
          unfold md_atom_J132
          rw [lt1_ap, lt1_ap, chk_B (l9 _)]
          refine ⟨_, _, l9 _, rfl, ⟨?_, hp2, p2 + 1, by omega, ?_⟩, FrR_tr (FrR_tr FrR_A FrR_dp) (FrR_tr FrR_B (FrR_tr FrR_9 FrR_dp))⟩
          · rw [wr_ne (by omega), wr_ne (by omega), wr_eq]
          · rw [wr_ne (by omega), wr_eq, wr_ne (by omega), setA_9]
            exact n_add _ _
      · rw [l1, bnd_s, if_pos rfl]
        refine Or.inr ⟨X2, q2, z', rfl, l2, l3, by omega, l5, FrC_tr FrC_mv l6 (Nat.le_refl _), fun Y a hY => ?_⟩
        obtain ⟨r1, r2⟩ := ref2 Y a hY
        obtain ⟨v, Y', u1, ⟨u2, u3, u4⟩⟩ := l7 _ _ r1
        rw [r2, u2, bnd_s, if_neg (BQ_f u3 he)]
        obtain ⟨u3a, u3b, a9, u3c, u3d⟩ := u3
        unfold md_atom_J132
        rw [lt1_ap, lt1_ap, chk_B u1]
        refine ⟨_, _, u1, rfl, ⟨?_, u3b, a9 + 1, by omega, ?_⟩, FrR_tr (FrR_tr FrR_A (FrR_tr FrR_dp FrR_A)) (FrR_tr u4 (FrR_tr FrR_9 FrR_dp))⟩
        · rw [wr_ne (by omega), wr_ne (by omega), u3a]
        · rw [wr_ne (by omega), wr_eq, u3d]
          exact n_add _ _
    · rw [if_neg (fun h => h6 (d6.mp h))]
      refine Or.inr ⟨X, p, z, rfl, hT, h4, Nat.le_refl _, by omega, FrC_rfl, fun Y a hY => ?_⟩
      refine ⟨0, _, rfl, (ref Y a hY).trans (J6 Y _ _ _ hY (by omega)), BQ_B (by omega) hpe, FrR_B⟩
  rw [if_neg (by rw [decide_eq_false q25]; decide)]
  unfold rd_readAtom_J30
  rw [show (25 : Int32) = nI 25 from rfl, k_take_no hT (w := 25) (by omega) q25, bnd_s, if_pos (show nI 0 = 0 from rfl), show (19 : Int32) = nI 19 from rfl, k_take_no hT (w := 19) (by omega) q19, bnd_s, if_pos (show nI 0 = 0 from rfl)]
  have ref : ∀ Y a, RS Y b e a p d → RS (setA Y p) b e p p d ∧ md_atom_S G Y = bnd2 (md_plain (setA Y p)) fun v21 M20 => chk (isB v21) (some (v21, M20)) := fun Y a hY => by
    obtain ⟨s1, s2⟩ := RS_skip hY
    refine ⟨s2, ?_⟩
    rw [s0 Y a hY, RS_hasN s2 W12 q19, bnd_s, if_pos rfl, sA_sA, show (40 : Int32) = nI 40 from rfl, RS_sgnN s2 S40 (by omega) q25, bnd_s, if_pos rfl, sA_sA]
  rcases plain_sim (self := A) (x1 := nI d) (d := d) he (by omega) hT h4 hz with ⟨X2, p2, n2, v2, l1, l2, l3, l4, l5, l6, l7, l8, l9, l10⟩ | ⟨X2, q2, z', l1, l2, l3, l4, l5, l6, l7⟩
  · refine Or.inl ⟨X2, p2, n2, v2, l1, l2, l3, l4, l5, l6, l7, Ev_mono l8 (by omega), l9, fun Y a hY => ?_⟩
    obtain ⟨r1, r2⟩ := ref Y a hY
    obtain ⟨a2, u1, u2, u3⟩ := l10 _ _ r1
    refine ⟨a2, u1, u2, ?_⟩
    rw [r2, u3, bnd_s, chk_B (l9 _), setA_5, sA_sA]
  · refine Or.inr ⟨X2, q2, z', l1, l2, l3, l4, l5, l6, fun Y a hY => ?_⟩
    obtain ⟨r1, r2⟩ := ref Y a hY
    obtain ⟨v, Y', u1, u2, u3, u4⟩ := l7 _ _ r1
    refine ⟨v, Y', u1, ?_, u3, FrR_tr FrR_A u4⟩
    rw [r2, u2, bnd_s, chk_B u1]
theorem atom_sim : ∀ m d f g, d + m = 6 → m < f → m < g → AtS d (rd_readAtom f) (md_atom g)
  | 0, d, f, g, h, h1, h2 => by
    obtain ⟨f, rfl⟩ : ∃ x, f = x + 1 := ⟨f - 1, by omega⟩
    obtain ⟨g, rfl⟩ : ∃ x, g = x + 1 := ⟨g - 1, by omega⟩
    exact atom_S_sim (A := rd_readAtom f) (G := md_atom g) (by omega) (fun h => by omega)
  | m + 1, d, f, g, h, h1, h2 => by
    obtain ⟨f, rfl⟩ : ∃ x, f = x + 1 := ⟨f - 1, by omega⟩
    obtain ⟨g, rfl⟩ : ∃ x, g = x + 1 := ⟨g - 1, by omega⟩
    exact atom_S_sim (A := rd_readAtom f) (G := md_atom g) (by omega) (fun _ => atom_sim m (d + 1) f g (by omega) (by omega) (by omega))
/-- a whole condition, in both -/
theorem cond_sim {b : Nat → Nat} {e z p : Nat} {X : Mem} (he : e ≤ 400) (hT : TPo X b e p) (h4 : X 63 4 = nI z) (hz : z ≤ p) : RdS (fun v => isB v = true) X b e p z z 0 17 (p + 1) (rd_readAny (rd_readAtom FD) (nI 0) X) (md_some (md_atom FD)) :=
  any_sim (A := rd_readAtom FD) (G := md_atom FD) (d := 0) (hi := 16) he (by omega) (by omega) (fun p z X a1 a2 a3 => all_sim (A := rd_readAtom FD) (G := md_atom FD) (b := b) (e := e) (d := 0) (hi := 15) he (by omega) (by omega) (fun p z X a1 a2 a3 => atom_sim 6 0 FD FD rfl (by decide) (by decide) b e p z X he a1 a2 a3) a1 a2 a3) hT h4 hz
