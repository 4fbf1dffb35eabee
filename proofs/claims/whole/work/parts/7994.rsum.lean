/-! the rule: sums and comparisons -/
theorem setA_5 {Y : Mem} {a : Nat} : setA Y a 5 = Y 5 := funext fun i => wr_ne (by omega)
theorem RdS_step {Q : Int32 → Prop} {X X1 : Mem} {b : Nat → Nat} {e p p1 zs zc zc1 d h pl pl1 : Nat} {A : Option (Int32 × Mem)} {G G1 : Mem → Option (Int32 × Mem)} (H : RdS Q X1 b e p1 zs zc1 d h pl1 A G1) (f : FrC X X1 zc) (g1 : zc ≤ zc1) (g2 : pl ≤ pl1) (g3 : zc1 + p ≤ zc + p1) (hG : ∀ Y a, RS Y b e a p d → ∃ a1, RS (setA Y a1) b e a1 p1 d ∧ G Y = G1 (setA Y a1)) : RdS Q X b e p zs zc d h pl A G := by
  rcases H with ⟨X', p', n, v, k1, k2, k3, k4, k5, k6, k7, k8, k9, k10⟩ | ⟨X', q, z', k1, k2, k3, k4, k5, k6, k7⟩
  · refine Or.inl ⟨X', p', n, v, k1, by omega, k3, k4, by omega, by omega, FrC_tr f k7 g1, k8, k9, fun Y a hY => ?_⟩
    obtain ⟨a1, r1, r2⟩ := hG Y a hY
    obtain ⟨a', s1, s2, s3⟩ := k10 _ _ r1
    refine ⟨a', s1, s2, ?_⟩
    rw [r2, s3, setA_5, sA_sA]
  · refine Or.inr ⟨X', q, z', k1, k2, k3, by omega, k5, FrC_tr f k6 g1, fun Y a hY => ?_⟩
    obtain ⟨a1, r1, r2⟩ := hG Y a hY
    obtain ⟨v, Y', s1, s2, s3, s4⟩ := k7 _ _ r1
    exact ⟨v, Y', s1, by rw [r2, s2], s3, FrR_tr FrR_A s4⟩
theorem k_ptb {X : Mem} {b : Nat → Nat} {e p : Nat} (h : TPo X b e p) (G : Int32 → Option (Int32 × Mem)) : ((tp_thing X).bind fun v1 => (tp_number X).bind fun v2 => (rd_partOf v1 v2 X).bind G) = G (ptK b e p) := by
  have h1 := k_pt h
  obtain ⟨nv, hn1, hn2⟩ := k_number h
  rw [k_thing h, bind_s, hn1, bind_s] at h1 ⊢
  rw [h1, bind_s]
theorem jn_6 (x y : Int32) : jn (-6) x y = x + y := by
  unfold jn
  rw [if_neg (by decide), if_neg (by decide), if_neg (by decide), if_pos rfl]
theorem jn_7 (x y : Int32) : jn (-7) x y = if x < y then 1 else 0 := by
  unfold jn
  rw [if_neg (by decide), if_neg (by decide), if_pos rfl]
theorem jn_8 (x y : Int32) : jn (-8) x y = if y < x then 1 else 0 := by
  unfold jn
  rw [if_neg (by decide), if_pos rfl]
theorem rs_next {Y : Mem} {b : Nat → Nat} {e a p d : Nat} (h : RS Y b e a p d) (hp : p < e) : RS (setA Y (beh b e p)) b e (beh b e p) (nxt b e p) d := RS_A h (beh_gt hp).2 rfl
theorem sum_tail {b : Nat → Nat} {e z d : Nat} (he : e ≤ 400) (hd : d ≤ 20) : ∀ m k fu fu2 (X : Mem) p n acc, e - p < m → m < fu → m < fu2 → TPo X b e p → X 63 4 = nI (z + n) → z + n ≤ p → 2 * k + 1 ≤ p → Ev (X 66) z n 2 acc → RdS (fun _ => True) X b e p z (z + n) d 2 p (bnd2 (tp_take (nI 29) X) fun v7 M6 => (if v7 = 0 then some ((1 : Int32), M6) else rd_readSum_L2 (fun M12 => some ((0 : Int32), M12)) fu (nI k + 1) M6)) (fun Y => md_sum_L5 (fun v1_7 M9 => some (v1_7, M9)) fu2 (acc (Y 5)) Y) := by
  intro m
  induction m with
  | zero => intro k fu fu2 X p n acc h0; omega
  | succ m ih =>
    intro k fu fu2 X p n acc h0 h1 h2 hT h4 hz hk hE
    obtain ⟨fu, rfl⟩ : ∃ f, fu = f + 1 := ⟨fu - 1, by omega⟩
    obtain ⟨fu2, rfl⟩ : ∃ f, fu2 = f + 1 := ⟨fu2 - 1, by omega⟩
    have hpe := TPo_le hT
    have i1 : ¬ (1 : Int32) = 0 := by decide
    by_cases q : KD b e p = 29
    · have hp : p < e := KD_lt (b := b) (e := e) (p := p) (by omega)
      obtain ⟨t1, t2⟩ := k_take_yes hT (w := 29) (by omega) (by omega) q
      obtain ⟨x1, x2⟩ := nxt_gt (b := b) hp
      rw [t1, bnd_s, if_neg (show ¬ nI 1 = 0 by decide), rd_readSum_L2, show nI k + 1 = nI (k + 1) from n_add _ _, if_pos (show nI (k + 1) < 400 by rw [show (400 : Int32) = nI 400 from rfl, n_lt (by omega) (by omega)]; omega), k_ptb t2]
      have ref : ∀ Y a, RS Y b e a p d → RS (setA Y (beh b e p)) b e (beh b e p) (nxt b e p) d ∧ md_sum_L5 (fun v1_7 M9 => some (v1_7, M9)) (fu2 + 1) (acc (Y 5)) Y = bnd2 (md_part (setA Y (beh b e p))) fun v7 M6 => md_sum_L5 (fun v1_7 M9 => some (v1_7, M9)) fu2 (acc (Y 5) + v7) M6 := fun Y a hY => by
        obtain ⟨u1, u2, u3⟩ := RS_sgnY hY S43 (by omega) q
        refine ⟨rs_next hY hp, ?_⟩
        rw [md_sum_L5, hY.2.1, if_pos rfl, show (43 : Int32) = nI 43 from rfl, u1, bnd_s, if_neg i1, lt1_ap, setA_9, show nI p + 1 = nI (p + 1) from n_add _ _, show wr (setA Y p) 0 9 (nI (p + 1)) = setA Y (p + 1) from wr_wr, ← u2]
      by_cases c : ptK b e (nxt b e p) = -100
      · rw [if_pos c]
        refine Or.inr ⟨_, _, z + n, rfl, t2, by rw [mvT_ne (by omega), h4], Nat.le_refl _, by omega, FrC_mv, fun Y a hY => ?_⟩
        obtain ⟨r1, r2⟩ := ref Y a hY
        obtain ⟨v, a', s1, s2⟩ := (r_part r1).2 c
        have hB : BQ (wr (setA (setA Y (beh b e p)) a') 0 10 (nI (nxt b e p))) e (nxt b e p) d → md_sum_L5 (fun v1_7 M9 => some (v1_7, M9)) (fu2 + 1) (acc (Y 5)) Y = some (acc (Y 5) + v, wr (setA (setA Y (beh b e p)) a') 0 10 (nI (nxt b e p))) := fun hB => by
          obtain ⟨fu2, rfl⟩ : ∃ f, fu2 = f + 1 := ⟨fu2 - 1, by omega⟩
          rw [r2, s2, bnd_s, md_sum_L5, if_neg (BQ_f hB he)]
        have hB1 := BQ_B (Y := setA Y (beh b e p)) (d := d) (show a' + d ≤ e + 20 by omega) x2
        exact ⟨_, _, trivial, hB hB1, hB1, FrR_tr FrR_A FrR_B⟩
      · obtain ⟨c1, c2, c3⟩ := ptK_w c
        have hp1 : nxt b e p < e := KD_lt c2
        obtain ⟨y1, y2⟩ := nxt_gt (b := b) hp1
        obtain ⟨w1, w2⟩ := k_next t2 hp1
        have m4 : mvT (mvT X) 63 4 = nI (z + n) := by rw [mvT_ne (by omega), mvT_ne (by omega), h4]
        have hz1 : z + n + 1 < 400 := by omega
        rw [if_neg c, w1, bind_s, k_pts m4 (by omega), bind_s, if_pos (show 0 < nI (k + 1) by rw [show (0 : Int32) = nI 0 from rfl, n_lt (by omega) (by omega)]; omega), k_pts putS_4 hz1, bind_s, show (29 : Int32) = nI 29 from rfl]
        have hT3 := putS_T (s := -6) (z := z + n + 1) (putS_T (s := ptK b e (nxt b e p)) (z := z + n) w2)
        have hE3 : Ev (putS (putS (mvT (mvT X)) (z + n) (ptK b e (nxt b e p))) (z + n + 1) (-6) 66) z (n + 1 + 1) 2 (fun F => jn (-6) (acc F) (pOf F (ptK b e (nxt b e p)))) := by
          have e1 : ∀ i, i < z + n → putS (putS (mvT (mvT X)) (z + n) (ptK b e (nxt b e p))) (z + n + 1) (-6) 66 i = X 66 i := fun i hi => by
            rw [putS_F _ _ (by omega) (by omega) (by omega), putS_F _ _ (by omega) (by omega) (by omega), mvT_ne (by omega), mvT_ne (by omega)]
          have e2 : putS (putS (mvT (mvT X)) (z + n) (ptK b e (nxt b e p))) (z + n + 1) (-6) 66 (z + n) = ptK b e (nxt b e p) := by
            rw [putS_F _ _ (by omega) (by omega) (by omega), putS_s]
          have hp2 := Ev_part (s := putS (putS (mvT (mvT X)) (z + n) (ptK b e (nxt b e p))) (z + n + 1) (-6) 66) (z := z + n) (by rw [e2]; exact c1)
          rw [e2] at hp2
          exact Ev_bin (Ev_cong hE fun i a d => e1 i d) hp2 putS_s (by decide) (by omega) (by omega) (by omega)
        have := ih (k + 1) fu fu2 _ (nxt b e (nxt b e p)) (n + 1 + 1) _ (by omega) (by omega) (by omega) hT3 putS_4 (by omega) (by omega) hE3
        refine RdS_step this (FrC_tr (FrC_tr FrC_mv FrC_mv (Nat.le_refl _)) (FrC_tr putS_F putS_F (Nat.le_succ _)) (Nat.le_refl _)) (by omega) (by omega) (by omega) fun Y a hY => ?_
        obtain ⟨r1, r2⟩ := ref Y a hY
        have s2 := (r_part r1).1 c
        refine ⟨beh b e (nxt b e p), RS_A hY (beh_gt hp1).2 rfl, ?_⟩
        show md_sum_L5 (fun v1_7 M9 => some (v1_7, M9)) (fu2 + 1) (acc (Y 5)) Y = _
        rw [r2, s2, bnd_s, sA_sA, setA_5, setA_5, jn_6]
    · rw [k_take_no hT (w := 29) (by omega) q, bnd_s, if_pos (show nI 0 = 0 from rfl)]
      refine Or.inl ⟨X, p, n, acc, rfl, Nat.le_refl _, hT, h4, by omega, Nat.le_refl _, FrC_rfl, hE, fun _ => trivial, fun Y a hY => ?_⟩
      obtain ⟨a1, a2, a3, a4⟩ := RS_p hY
      refine ⟨p, a2, a3, ?_⟩
      show md_sum_L5 (fun v1_7 M9 => some (v1_7, M9)) (fu2 + 1) (acc (Y 5)) Y = _
      rw [md_sum_L5, hY.2.1, if_pos rfl, show (43 : Int32) = nI 43 from rfl, RS_sgnN hY S43 (by omega) q, bnd_s, if_pos rfl]
theorem sum_sim {b : Nat → Nat} {e z d p : Nat} {X : Mem} (he : e ≤ 400) (hd : d ≤ 20) (hT : TPo X b e p) (h4 : X 63 4 = nI z) (hz : z ≤ p) : RdS (fun _ => True) X b e p z z d 2 (p + 1) (rd_readSum X) md_sum := by
  have hpe := TPo_le hT
  unfold rd_readSum
  rw [show FU = 999999 + 1 from rfl, rd_readSum_L2, if_pos (by decide), k_ptb hT]
  by_cases c : ptK b e p = -100
  · rw [if_pos c]
    refine Or.inr ⟨X, p, z, rfl, hT, h4, Nat.le_refl _, by omega, FrC_rfl, fun Y a hY => ?_⟩
    obtain ⟨v, a', s1, s2⟩ := (r_part hY).2 c
    have hB1 := BQ_B (Y := Y) (d := d) (show a' + d ≤ e + 20 by omega) hpe
    refine ⟨v, _, trivial, ?_, hB1, FrR_B⟩
    unfold md_sum
    rw [s2, bnd_s, show FU = 999999 + 1 from rfl, md_sum_L5, if_neg (BQ_f hB1 he)]
  · obtain ⟨c1, c2, c3⟩ := ptK_w c
    have hp1 : p < e := KD_lt c2
    obtain ⟨y1, y2⟩ := nxt_gt (b := b) hp1
    obtain ⟨w1, w2⟩ := k_next hT hp1
    have m4 : mvT X 63 4 = nI z := by rw [mvT_ne (by omega), h4]
    rw [if_neg c, w1, bind_s, k_pts m4 (by omega), bind_s, if_neg (by decide), show (29 : Int32) = nI 29 from rfl, show (0 : Int32) + 1 = nI 0 + 1 from rfl]
    have hE : Ev (putS (mvT X) z (ptK b e p) 66) z 1 2 (fun F => pOf F (ptK b e p)) := by
      have hp2 := Ev_part (s := putS (mvT X) z (ptK b e p) 66) (z := z) (by rw [putS_s]; exact c1)
      rw [putS_s] at hp2
      exact Ev_mono hp2 (by omega)
    have := sum_tail (d := d) he hd (e - nxt b e p + 1) 0 999999 FU _ (nxt b e p) 1 _ (by omega) (by omega) (by rw [FUe]; omega) (putS_T (s := ptK b e p) (z := z) w2) putS_4 (by omega) (by omega) hE
    refine RdS_step this (FrC_tr FrC_mv putS_F (Nat.le_refl _)) (by omega) (by omega) (by omega) fun Y a hY => ?_
    have s2 := (r_part hY).1 c
    refine ⟨beh b e p, rs_next hY hp1, ?_⟩
    unfold md_sum
    rw [s2, bnd_s, setA_5]
/-- a comparison -/
def plC (self : Int32 → Mem → Option (Int32 × Mem)) (p1 : Int32) (M4 : Mem) : Option (Int32 × Mem) := bnd2 (rd_readSum M4) fun v7 M6 => (if v7 = 0 then some ((0 : Int32), M6) else (tp_thing M6).bind fun v8 => (if teq v8 (27 : Int32) = true then rd_readAtom_J137 self p1 (v8) M6 else (if teq v8 (28 : Int32) = true then rd_readAtom_J137 self p1 (v8) M6 else some ((0 : Int32), M6))))
theorem plain_sim {self : Int32 → Mem → Option (Int32 × Mem)} {x1 : Int32} {b : Nat → Nat} {e z d p : Nat} {X : Mem} (he : e ≤ 400) (hd : d ≤ 20) (hT : TPo X b e p) (h4 : X 63 4 = nI z) (hz : z ≤ p) : RdS (fun v => isB v = true) X b e p z z d 3 (p + 1) (plC self x1 X) md_plain := by
  have i1 : ¬ (1 : Int32) = 0 := by decide
  unfold plC
  rcases sum_sim he hd hT h4 hz with ⟨X', p', n, v, k1, k2, k3, k4, k5, k6, k7, k8, k9, k10⟩ | ⟨X', q, z', k1, k2, k3, k4, k5, k6, k7⟩
  · have hpe := TPo_le k3
    have hl := KD_le b e p'
    rw [k1, bnd_s, if_neg i1, k_thing k3, bind_s, show (27 : Int32) = nI 27 from rfl, show (28 : Int32) = nI 28 from rfl, teq_n (by omega) (by omega), teq_n (by omega) (by omega)]
    have go : ∀ (op : Int32) (less : Int32), (op = -7 ∨ op = -8) → p' < e → (∀ x y, isB (jn op x y) = true) → (∀ Y a, RS Y b e a p' d → ∀ x, (bnd2 (md_isSign ((60 : Int32)) Y) fun v4 M3 => (if v4 = 0 then bnd2 (md_isSign ((62 : Int32)) M3) fun v9 M8 => (if v9 = 0 then (md_wrong ((M8 0 9)) M8).bind fun M10 => some ((0 : Int32), M10) else md_plain_J45 x (v4) M8) else md_plain_J45 x (v4) M3)) = bnd2 (md_sum (setA Y (beh b e p'))) fun v7 M6 => some (jn op x v7, M6)) → RdS (fun v => isB v = true) X b e p z z d 3 (p + 1) ((tp_next X').bind fun M9 => bnd2 (rd_readSum M9) fun v11 M10 => (if v11 = 0 then some ((0 : Int32), M10) else (ru_putStep 63 op M10).bind fun M13 => some ((1 : Int32), M13))) md_plain := fun op less ho hp hb hr => by
      obtain ⟨x1, x2⟩ := nxt_gt (b := b) hp
      obtain ⟨w1, w2⟩ := k_next k3 hp
      have m4 : mvT X' 63 4 = nI (z + n) := by rw [mvT_ne (by omega), k4]
      have ref : ∀ Y a, RS Y b e a p d → ∃ a1, RS (setA Y a1) b e a1 (nxt b e p') d ∧ md_plain Y = bnd2 (md_sum (setA Y a1)) fun v7 M6 => some (jn op (v (Y 5)) v7, M6) := fun Y a hY => by
        obtain ⟨a1, s1, s2, s3⟩ := k10 Y a hY
        have hY1 := RS_A hY s1 s2
        refine ⟨beh b e p', RS_A hY (beh_gt hp).2 rfl, ?_⟩
        unfold md_plain
        rw [s3, bnd_s, hY1.2.1, if_pos rfl, hr _ _ hY1, sA_sA]
      rw [w1, bind_s]
      rcases sum_sim he hd w2 m4 (by omega) with ⟨X2, p2, n2, v2, l1, l2, l3, l4, l5, l6, l7, l8, l9, l10⟩ | ⟨X2, q, z', l1, l2, l3, l4, l5, l6, l7⟩
      · have hp2 := TPo_le l3
        rw [l1, bnd_s, if_neg i1, k_pts l4 (by omega), bind_s]
        have e1 : ∀ i, i < z + n → putS X2 (z + n + n2) op 66 i = X' 66 i := fun i hi => by
          rw [putS_F _ _ (by omega) (by omega) (by omega), l7 _ _ (by omega) (by omega) (by omega), mvT_ne (by omega)]
        have e2 : ∀ i, i < z + n + n2 → putS X2 (z + n + n2) op 66 i = X2 66 i := fun i hi => putS_F _ _ (by omega) (by omega) (by omega)
        refine Or.inl ⟨_, p2, n + n2 + 1, fun F => jn op (v F) (v2 F), rfl, by omega, putS_T l3, by rw [putS_4, show z + n + n2 + 1 = z + (n + n2 + 1) by omega], by omega, by omega, FrC_tr k7 (FrC_tr FrC_mv (FrC_tr l7 putS_F (by omega)) (Nat.le_refl _)) (by omega), Ev_bin (Ev_cong k8 fun i a d => e1 i d) (Ev_cong l8 fun i a d => e2 i d) putS_s (by rcases ho with rfl | rfl <;> decide) (by omega) (by omega) (by omega), fun F => hb _ _, fun Y a hY => ?_⟩
        obtain ⟨a1, r1, r2⟩ := ref Y a hY
        obtain ⟨a2, t1, t2, t3⟩ := l10 _ _ r1
        refine ⟨a2, t1, t2, ?_⟩
        rw [r2, t3, bnd_s, setA_5, sA_sA]
      · rw [l1, bnd_s, if_pos rfl]
        refine Or.inr ⟨X2, q, z', rfl, l2, l3, by omega, l5, FrC_tr k7 (FrC_tr FrC_mv l6 (Nat.le_refl _)) (by omega), fun Y a hY => ?_⟩
        obtain ⟨a1, r1, r2⟩ := ref Y a hY
        obtain ⟨v3, Y', t1, t2, t3, t4⟩ := l7 _ _ r1
        refine ⟨jn op (v (Y 5)) v3, Y', hb _ _, ?_, t3, FrR_tr FrR_A t4⟩
        rw [r2, t2, bnd_s]
    by_cases q7 : KD b e p' = 27
    · have hp : p' < e := KD_lt (b := b) (e := e) (p := p') (by omega)
      rw [if_pos (decide_eq_true q7)]
      unfold rd_readAtom_J137
      rw [show (27 : Int32) = nI 27 from rfl, teq_n (by omega) (by omega)]
      have hc : ∀ (A B : Option (Int32 × Mem)), (if decide (KD b e p' = 27) = true then A else B) = A := fun A B => if_pos (decide_eq_true q7)
      simp only [hc]
      refine go (-7) 1 (Or.inl rfl) hp (fun x y => ?_) fun Y a hY x => ?_
      · rw [jn_7]
        by_cases q : x < y
        · rw [if_pos q]; rfl
        · rw [if_neg q]; rfl
      · obtain ⟨u1, u2, u3⟩ := RS_sgnY hY S60 (by omega) q7
        rw [show (60 : Int32) = nI 60 from rfl, u1, bnd_s, if_neg i1]
        unfold md_plain_J45
        rw [lt1_ap, setA_9, show nI p' + 1 = nI (p' + 1) from n_add _ _, show wr (setA Y p') 0 9 (nI (p' + 1)) = setA Y (p' + 1) from wr_wr, ← u2]
        congr 1
        funext v7 M6
        rw [if_neg i1, jn_7]
        by_cases q : x < v7
        · rw [if_pos q, if_pos q]
        · rw [if_neg q, if_neg q]
    rw [if_neg (by rw [decide_eq_false q7]; decide)]
    by_cases q8 : KD b e p' = 28
    · have hp : p' < e := KD_lt (b := b) (e := e) (p := p') (by omega)
      rw [if_pos (decide_eq_true q8)]
      unfold rd_readAtom_J137
      rw [show (27 : Int32) = nI 27 from rfl, teq_n (by omega) (by omega)]
      have hc : ∀ (A B : Option (Int32 × Mem)), (if decide (KD b e p' = 27) = true then A else B) = B := fun A B => if_neg (by rw [decide_eq_false q7]; decide)
      simp only [hc]
      refine go (-8) 0 (Or.inr rfl) hp (fun x y => ?_) fun Y a hY x => ?_
      · rw [jn_8]
        by_cases q : y < x
        · rw [if_pos q]; rfl
        · rw [if_neg q]; rfl
      · have hn := RS_sgnN hY S60 (by omega) q7
        have hY1 := RS_A hY (RS_p hY).2.1 (RS_p hY).2.2.1
        obtain ⟨u1, u2, u3⟩ := RS_sgnY hY1 S62 (by omega) q8
        rw [show (60 : Int32) = nI 60 from rfl, hn, bnd_s, if_pos rfl, show (62 : Int32) = nI 62 from rfl, u1, bnd_s, if_neg i1, sA_sA]
        unfold md_plain_J45
        rw [lt1_ap, setA_9, show nI p' + 1 = nI (p' + 1) from n_add _ _, show wr (setA Y p') 0 9 (nI (p' + 1)) = setA Y (p' + 1) from wr_wr, ← u2]
        congr 1
        funext v7 M6
        rw [if_pos rfl, jn_8]
        by_cases q : v7 < x
        · rw [if_pos q, if_pos q]
        · rw [if_neg q, if_neg q]
    rw [if_neg (by rw [decide_eq_false q8]; decide)]
    refine Or.inr ⟨X', p', z + n, rfl, k3, k4, by omega, by omega, k7, fun Y a hY => ?_⟩
    obtain ⟨a1, s1, s2, s3⟩ := k10 Y a hY
    have hY1 := RS_A hY s1 s2
    have hY2 := RS_A hY (RS_p hY1).2.1 (RS_p hY1).2.2.1
    have hB := BQ_B (Y := Y) (d := d) (show p' + d ≤ e + 20 by omega) hpe
    refine ⟨0, _, rfl, ?_, hB, FrR_B⟩
    unfold md_plain
    rw [s3, bnd_s, hY1.2.1, if_pos rfl, show (60 : Int32) = nI 60 from rfl, RS_sgnN hY1 S60 (by omega) q7, bnd_s, if_pos rfl, show (62 : Int32) = nI 62 from rfl, sA_sA, RS_sgnN hY2 S62 (by omega) q8, bnd_s, if_pos rfl, sA_sA, setA_9, r_wrong _ hY2.2.1, bind_s]
  · rw [k1, bnd_s, if_pos rfl]
    refine Or.inr ⟨X', q, z', rfl, k2, k3, k4, k5, k6, fun Y a hY => ?_⟩
    obtain ⟨v, Y', t1, t2, t3, t4⟩ := k7 _ _ hY
    refine ⟨0, Y', rfl, ?_, t3, t4⟩
    unfold md_plain
    rw [t2, bnd_s, if_neg (BQ_f t3 he)]
