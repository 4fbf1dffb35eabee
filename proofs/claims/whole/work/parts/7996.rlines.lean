/-! the rule: lines -/
def RU (nm en s : Nat → Int32) (ln z : Nat) (say : (Nat → Int32) → Int32) : Prop := ∀ (F : Nat → Int32) (M : Mem) (fu tot : Nat) (p1 p2 : Int32) (K : Mem → Option (Int32 × Mem)), M 58 0 = nI tot → ln ≤ tot → tot ≤ 12 → (∀ j, j < ln → M 59 j = nm j ∧ M 60 j = en j) → (∀ i, i < z → M 61 i = s i) → HF M F →
  (say F = -1 → ∃ M', ru_numberOf_L15 58 p1 p2 K (fu + ln) (nI 0) (nI 0) M = ru_numberOf_L15 58 p1 p2 K fu (nI z) (nI ln) M' ∧ ∀ r i, ¬ r = 62 → M' r i = M r i) ∧
  (¬ say F = -1 → ∃ M', ru_numberOf_L15 58 p1 p2 K (fu + ln) (nI 0) (nI 0) M = some (say F, M') ∧ ∀ r i, ¬ r = 62 → M' r i = M r i)
theorem RU_cong {nm en s nm' en' s' : Nat → Int32} {ln z : Nat} {say : (Nat → Int32) → Int32} (h : RU nm en s ln z say) (h1 : ∀ j, j < ln → nm' j = nm j ∧ en' j = en j) (h2 : ∀ i, i < z → s' i = s i) : RU nm' en' s' ln z say := fun F M fu tot p1 p2 K a1 a2 a3 a4 a5 a6 => h F M fu tot p1 p2 K a1 a2 a3 (fun j hj => by rw [← (h1 j hj).1, ← (h1 j hj).2]; exact a4 j hj) (fun i hi => by rw [← h2 i hi]; exact a5 i hi) a6
theorem RU_0 {nm en s : Nat → Int32} : RU nm en s 0 0 (fun _ => -1) := fun F M fu tot p1 p2 K a1 a2 a3 a4 a5 a6 => ⟨fun _ => ⟨M, rfl, fun _ _ _ => rfl⟩, fun h => absurd rfl h⟩
/-- what a line says: v of the facts, if nothing is said yet -/
def sayN (say : (Nat → Int32) → Int32) (v : (Nat → Int32) → Int32) (w : Nat) (F : Nat → Int32) : Int32 := if say F = -1 then (if v F = 0 then -1 else nI w) else say F
theorem RU_line {nm en s : Nat → Int32} {ln z n w : Nat} {say v : (Nat → Int32) → Int32} (h : RU nm en s ln z say) (hv : (n = 0 ∧ ∀ F, v F = 1) ∨ Ev s z n 40 v) (hw : w ≤ 999) (h1 : nm ln = nI w) (h2 : en ln = nI (z + n)) (hz : z + n ≤ 400) : RU nm en s (ln + 1) (z + n) (sayN say v w) := by
  intro F M fu tot p1 p2 K a1 a2 a3 a4 a5 a6
  obtain ⟨g1, g2⟩ := h F M (fu + 1) tot p1 p2 K a1 (by omega) a3 (fun j hj => a4 j (by omega)) (fun i hi => a5 i (by omega)) a6
  rw [show fu + (ln + 1) = fu + 1 + ln by omega]
  unfold sayN
  have hw1 : ¬ nI w = -1 := nI_nm (by omega)
  by_cases q : say F = -1
  · obtain ⟨M1, e1, e2⟩ := g1 q
    rw [if_pos q]
    have hh : ∃ M', ru_holds 58 (nI z) (nI (z + n)) M1 = some (bI (decide (¬ v F = 0)), M') ∧ ∀ r i, ¬ r = 62 → M' r i = M1 r i := by
      rcases hv with ⟨rfl, hv⟩ | hv
      · refine ⟨M1, ?_, fun _ _ _ => rfl⟩
        rw [Nat.add_zero, Ev_holds0 (by omega), hv F]
        rfl
      · exact Ev_holds hv (fun i x y => by rw [e2 _ _ (by omega)]; exact a5 i (by omega)) (HF_cong a6 fun i => e2 _ _ (by omega)) hz
    obtain ⟨M2, f1, f2⟩ := hh
    obtain ⟨n1, n2⟩ := a4 ln (by omega)
    have stp : ru_numberOf_L15 58 p1 p2 K (fu + 1) (nI z) (nI ln) M1 = if v F = 0 then ru_numberOf_L15 58 p1 p2 K fu (nI (z + n)) (nI (ln + 1)) M2 else some (nI w, M2) := by
      rw [ru_numberOf_L15, e2 _ _ (by omega), a1, if_pos (by rw [n_lt (by omega) (by omega)]; omega), chk_in (by omega) (by omega), n_cl (by omega), show 58 + 2 = 60 from rfl, e2 60 _ (by omega), n2, h2, f1, bnd_s, chk_in (by omega) (by omega), chk_in (by omega) (by omega), f2 60 _ (by omega), e2 60 _ (by omega), n2, h2, show 58 + 1 = 59 from rfl, f2 59 _ (by omega), e2 59 _ (by omega), n1, h1, show nI ln + 1 = nI (ln + 1) from n_add _ _]
      by_cases c : v F = 0
      · rw [if_pos c, ifb_f (decide_eq_false fun h => h c)]
      · rw [if_neg c, ifb_t (decide_eq_true c)]
    refine ⟨fun c => ?_, fun c => ?_⟩
    · by_cases d : v F = 0
      · refine ⟨M2, ?_, fun r i x => by rw [f2 r i x, e2 r i x]⟩
        rw [e1, stp, if_pos d]
      · rw [if_neg d] at c
        exact absurd c hw1
    · by_cases d : v F = 0
      · rw [if_pos d] at c
        exact absurd rfl c
      · refine ⟨M2, ?_, fun r i x => by rw [f2 r i x, e2 r i x]⟩
        rw [e1, stp, if_neg d, if_neg d]
  · rw [if_neg q]
    exact ⟨fun c => absurd c q, fun _ => g2 q⟩
theorem say_ok {say v : (Nat → Int32) → Int32} {w : Nat} (h : ∀ F, say F = -1 ∨ ∃ u, u ≤ 999 ∧ say F = nI u) (hw : w ≤ 999) : ∀ F, sayN say v w F = -1 ∨ ∃ u, u ≤ 999 ∧ sayN say v w F = nI u := fun F => by
  unfold sayN
  by_cases q : say F = -1
  · rw [if_pos q]
    by_cases q2 : v F = 0
    · rw [if_pos q2]; exact Or.inl rfl
    · rw [if_neg q2]; exact Or.inr ⟨w, hw, rfl⟩
  · rw [if_neg q]; exact h F
def FrT (X X' : Mem) : Prop := ∀ r i, ¬ (63 ≤ r ∧ r ≤ 66) → ¬ (r = 1 ∧ i = 6) → X' r i = X r i
theorem FrT_rfl {X : Mem} : FrT X X := fun _ _ _ _ => rfl
theorem FrT_tr {A B D : Mem} (h : FrT A B) (h2 : FrT B D) : FrT A D := fun r i p q => (h2 r i p q).trans (h r i p q)
theorem FrT_C {X X' : Mem} {z : Nat} (h : FrC X X' z) : FrT X X' := fun r i a d => h r i d (by omega) (by omega)
theorem FrT_mv {X : Mem} : FrT X (mvT X) := fun r i _ h => mvT_ne h
def endL (X : Mem) (ln z w : Nat) : Mem := wr (wr (wr X 64 ln (nI w)) 65 ln (nI z)) 63 0 (nI (ln + 1))
theorem k_endL {X : Mem} {ln z w : Nat} (h0 : X 63 0 = nI ln) (h4 : X 63 4 = nI z) (hl : ln < 12) : ru_endLine 63 (nI w) X = some (endL X ln z w) := by
  unfold ru_endLine endL
  rw [h0, if_neg (show ¬ nI ln < 0 by rw [show (0 : Int32) = nI 0 from rfl, n_lt (by omega) (by omega)]; omega), if_pos (show nI ln < 12 by rw [show (12 : Int32) = nI 12 from rfl, n_lt (by omega) (by omega)]; exact hl), chk_in hl (by omega), n_cl (by omega), lt1_ap, wr_ne (by omega), h0, chk_in hl (by omega), n_cl (by omega), wr_ne (by omega), h4, lt1_ap, lt1_ap, wr_ne (by omega), wr_ne (by omega), h0, show nI ln + 1 = nI (ln + 1) from n_add _ _]
theorem FrT_L {X : Mem} {ln z w : Nat} : FrT X (endL X ln z w) := fun r i a _ => by unfold endL; rw [wr_ne (by omega), wr_ne (by omega), wr_ne (by omega)]
theorem endL_T {X : Mem} {ln z w : Nat} {b : Nat → Nat} {e p : Nat} (h : TPo X b e p) : TPo (endL X ln z w) b e p := TPo_cong h fun r i q => by unfold endL; rw [wr_ne (by omega), wr_ne (by omega), wr_ne (by omega)]
/-- a line, in both -/
def LnS (X : Mem) (b : Nat → Nat) (e p k z : Nat) (say : (Nat → Int32) → Int32) (A : Option (Int32 × Mem)) (G : Mem → Option Mem) : Prop :=
  (∃ X' p' z' v w, A = some (1, X') ∧ p < p' ∧ TPo X' b e p' ∧ X' 63 0 = nI (k + 1) ∧ X' 63 4 = nI z' ∧ z' ≤ p' ∧ w ≤ 999 ∧ RU (X' 64) (X' 65) (X' 66) (k + 1) z' (sayN say v w) ∧ FrT X X' ∧ ∀ Y a, RS Y b e a p 0 → Y 0 13 = say (Y 5) → ∃ Y' a', G Y = some Y' ∧ RS Y' b e a' p' 0 ∧ Y' 0 13 = sayN say v w (Y 5) ∧ FrR Y Y') ∨
  (∃ X' q, A = some (0, X') ∧ TPo X' b e q ∧ FrT X X' ∧ ∀ Y a, RS Y b e a p 0 → ∃ Y', G Y = some Y' ∧ BQ Y' e q 0 ∧ FrR Y Y')
theorem rline_sim {X : Mem} {b : Nat → Nat} {e p k z : Nat} {say : (Nat → Int32) → Int32} (he : e ≤ 400) (hT : TPo X b e p) (h0 : X 63 0 = nI k) (h4 : X 63 4 = nI z) (hz : z ≤ p) (hk : k < 12) (hU : RU (X 64) (X 65) (X 66) k z say) : LnS X b e p k z say (rd_readLine X) md_ruleLine := by
  have hpe := TPo_le hT
  have i1 : ¬ (1 : Int32) = 0 := by decide
  obtain ⟨nv, hn1, hn2⟩ := k_number hT
  unfold rd_readLine
  rw [hn1, bind_s, show (2 : Int32) = nI 2 from rfl]
  have fig : ∀ Y a, RS Y b e a p 0 → _ := fun Y a hY => r_figures (lo := 0) (H := 1000) (hi := nI 999) hY.1 hY.2.2.1 hY.2.2.2.1 hY.2.1 (by omega) (fun v hv => by rw [n_lt (by omega) (by omega)]; omega)
  by_cases q : KD b e p = 2
  · have hp : p < e := KD_lt (b := b) (e := e) (p := p) (by omega)
    obtain ⟨x1, x2⟩ := nxt_gt (b := b) hp
    obtain ⟨t1, t2⟩ := k_take_yes hT (w := 2) (by omega) (by omega) q
    have hv := nvl_le q
    have m4 : mvT X 63 4 = nI z := by rw [mvT_ne (by omega), h4]
    have m0 : mvT X 63 0 = nI k := by rw [mvT_ne (by omega), h0]
    rw [hn2 q]
    generalize hw : nvl b p (beh b e p) = w at *
    rw [t1, bnd_s, if_neg (show ¬ nI 1 = 0 by decide), show (16 : Int32) = nI 16 from rfl]
    have ref : ∀ Y a, RS Y b e a p 0 → RS (setA Y (beh b e p)) b e (beh b e p) (nxt b e p) 0 ∧ md_ruleLine Y = bnd2 (md_has 11 (setA Y (beh b e p))) fun v4 M3 => (if v4 = 0 then md_ruleLine_J34 (nI w) M3 else bnd2 (md_some (md_atom FD) M3) fun v7 M6 => (if v7 = 0 then md_ruleLine_J39 (nI w) ((0 : Int32)) M6 else md_ruleLine_J34 (nI w) M6)) := fun Y a hY => by
      have h1 := fig Y a hY
      rw [hY.2.2.2.2.1] at h1
      have h2 := h1.1 q (Nat.zero_le _) (by omega)
      rw [hw] at h2
      refine ⟨rs_next hY hp, ?_⟩
      unfold md_ruleLine
      rw [show (0 : Int32) = nI 0 from rfl, show (999 : Int32) = nI 999 from rfl, h2, bnd_s, setA_10, hY.2.1, if_pos rfl]
    have J39 : ∀ (Y : Mem) (v : (Nat → Int32) → Int32) (s0 : Int32) a' p', RS Y b e a' p' 0 → Y 0 13 = say (Y 5) → (s0 = 0 ↔ v (Y 5) = 0) → ∃ Y', md_ruleLine_J39 (nI w) s0 Y = some Y' ∧ RS Y' b e a' p' 0 ∧ Y' 0 13 = sayN say v w (Y 5) ∧ FrR Y Y' := fun Y v s0 a' p' hY h13 hs => by
      unfold md_ruleLine_J39 sayN
      rw [hY.2.1, if_pos rfl, h13]
      by_cases c : s0 = 0
      · rw [if_pos c, if_pos (hs.mp c)]
        refine ⟨Y, rfl, hY, ?_, FrR_rfl⟩
        rw [h13]
        by_cases d : say (Y 5) = -1
        · rw [if_pos d, d]
        · rw [if_neg d]
      · rw [if_neg c, if_neg (fun h => c (hs.mpr h))]
        by_cases d : say (Y 5) = -1
        · rw [if_pos d, if_pos d, lt1_ap]
          exact ⟨_, rfl, ⟨LTx_cong hY.1 fun r i q => wr_ne (by omega), by rw [wr_ne (by omega), hY.2.1], by rw [wr_ne (by omega), hY.2.2.1], hY.2.2.2.1, hY.2.2.2.2.1, by rw [wr_ne (by omega), hY.2.2.2.2.2]⟩, wr_eq, fun r i h => wr_ne (by omega)⟩
        · rw [if_neg d, if_neg d]
          exact ⟨Y, rfl, hY, h13, FrR_rfl⟩
    by_cases q2 : KD b e (nxt b e p) = 16
    · have hp1 : nxt b e p < e := KD_lt (b := b) (e := e) (p := nxt b e p) (by omega)
      obtain ⟨y1, y2⟩ := nxt_gt (b := b) hp1
      obtain ⟨u1, u2⟩ := k_take_yes t2 (w := 16) (by omega) (by omega) q2
      have m4' : mvT (mvT X) 63 4 = nI z := by rw [mvT_ne (by omega), m4]
      have ref2 : ∀ Y a, RS Y b e a p 0 → RS (setA Y (beh b e (nxt b e p))) b e (beh b e (nxt b e p)) (nxt b e (nxt b e p)) 0 ∧ md_ruleLine Y = bnd2 (md_some (md_atom FD) (setA Y (beh b e (nxt b e p)))) fun v7 M6 => (if v7 = 0 then md_ruleLine_J39 (nI w) ((0 : Int32)) M6 else md_ruleLine_J34 (nI w) M6) := fun Y a hY => by
        obtain ⟨r1, r2⟩ := ref Y a hY
        have r3 := rs_next r1 hp1
        rw [sA_sA] at r3
        refine ⟨r3, ?_⟩
        rw [r2, RS_hasY r1 W11 q2, bnd_s, if_neg i1, sA_sA]
      rw [u1, bnd_s, if_neg (show ¬ nI 1 = 0 by decide), show (0 : Int32) = nI 0 from rfl]
      rcases cond_sim he u2 m4' (by omega) with ⟨X2, p2, n2, v2, l1, l2, l3, l4, l5, l6, l7, l8, l9, l10⟩ | ⟨X2, q2, z', l1, l2, l3, l4, l5, l6, l7⟩
      · have hp2 := TPo_le l3
        have e0 : X2 63 0 = nI k := by rw [l7 _ _ (by omega) (by omega) (by omega), mvT_ne (by omega), m0]
        rw [l1, bnd_s, if_neg (show ¬ (1 : Int32) = nI 0 from i1), k_endL e0 l4 hk, bind_s]
        have hU2 : RU (endL X2 k (z + n2) w 64) (endL X2 k (z + n2) w 65) (endL X2 k (z + n2) w 66) (k + 1) (z + n2) (sayN say v2 w) := by
          have e6 : ∀ i, endL X2 k (z + n2) w 66 i = X2 66 i := fun i => by unfold endL; rw [wr_ne (by omega), wr_ne (by omega), wr_ne (by omega)]
          refine RU_line (RU_cong hU (fun j hj => ?_) fun i hi => ?_) (Or.inr (Ev_mono (Ev_cong l8 fun i _ _ => e6 i) (by omega))) hv ?_ ?_ (by omega)
          · unfold endL
            rw [wr_ne (by omega), wr_ne (by omega), wr_ne (by omega), wr_ne (by omega), wr_ne (by omega), wr_ne (by omega), l7 _ _ (by omega) (by omega) (by omega), l7 _ _ (by omega) (by omega) (by omega), mvT_ne (by omega), mvT_ne (by omega), mvT_ne (by omega), mvT_ne (by omega)]
            exact ⟨rfl, rfl⟩
          · rw [e6, l7 _ _ (by omega) (by omega) (by omega), mvT_ne (by omega), mvT_ne (by omega)]
          · unfold endL
            rw [wr_ne (by omega), wr_ne (by omega), wr_eq]
          · unfold endL
            rw [wr_ne (by omega), wr_eq]
        refine Or.inl ⟨_, p2, z + n2, v2, w, rfl, by omega, endL_T l3, wr_eq, by unfold endL; rw [wr_ne (by omega), wr_ne (by omega), wr_ne (by omega), l4], by omega, hv, hU2, FrT_tr (FrT_tr FrT_mv FrT_mv) (FrT_tr (FrT_C l7) FrT_L), fun Y a hY h13 => ?_⟩
        obtain ⟨r1, r2⟩ := ref2 Y a hY
        obtain ⟨a2, v1, v3, v4⟩ := l10 _ _ r1
        rw [setA_5, sA_sA] at v4
        have r3 := RS_A hY v1 v3
        have h13' : setA Y a2 0 13 = say (setA Y a2 5) := by rw [setA_5, ← h13]; exact wr_ne (by omega)
        rw [r2, v4, bnd_s]
        rcases isB_c (l9 (Y 5)) with h | h
        · rw [h, if_pos rfl]
          obtain ⟨Y', o1, o2, o3, o4⟩ := J39 _ v2 0 _ _ r3 h13' ⟨fun _ => by rw [setA_5]; exact h, fun _ => rfl⟩
          rw [setA_5] at o3
          exact ⟨Y', a2, o1, o2, o3, FrR_tr FrR_A o4⟩
        · rw [h, if_neg i1]
          obtain ⟨Y', o1, o2, o3, o4⟩ := J39 _ v2 1 _ _ r3 h13' ⟨fun h => absurd h i1, fun h2 => by rw [setA_5, h] at h2; exact absurd h2 i1⟩
          rw [setA_5] at o3
          exact ⟨Y', a2, o1, o2, o3, FrR_tr FrR_A o4⟩
      · rw [l1, bnd_s, if_pos (show (0 : Int32) = nI 0 from rfl)]
        refine Or.inr ⟨X2, q2, rfl, l2, FrT_tr (FrT_tr FrT_mv FrT_mv) (FrT_C l6), fun Y a hY => ?_⟩
        obtain ⟨r1, r2⟩ := ref2 Y a hY
        obtain ⟨v, Y', u1, u2, u3, u4⟩ := l7 _ _ r1
        rw [r2, u2, bnd_s]
        have hf := BQ_f u3 he
        refine ⟨Y', ?_, u3, FrR_tr FrR_A u4⟩
        unfold md_ruleLine_J34 md_ruleLine_J39
        rw [if_neg hf, if_neg hf]
        by_cases c : v = 0
        · rw [if_pos c]
        · rw [if_neg c]
    · rw [k_take_no t2 (w := 16) (by omega) q2, bnd_s, if_pos (show nI 0 = 0 from rfl), k_endL m0 m4 hk, bind_s]
      have hU2 : RU (endL (mvT X) k z w 64) (endL (mvT X) k z w 65) (endL (mvT X) k z w 66) (k + 1) (z + 0) (sayN say (fun _ => 1) w) := by
        have e6 : ∀ i, endL (mvT X) k z w 66 i = X 66 i := fun i => by unfold endL; rw [wr_ne (by omega), wr_ne (by omega), wr_ne (by omega), mvT_ne (by omega)]
        refine RU_line (RU_cong hU (fun j hj => ?_) fun i hi => e6 i) (Or.inl ⟨rfl, fun _ => rfl⟩) hv ?_ ?_ (by omega)
        · unfold endL
          rw [wr_ne (by omega), wr_ne (by omega), wr_ne (by omega), wr_ne (by omega), wr_ne (by omega), wr_ne (by omega), mvT_ne (by omega), mvT_ne (by omega)]
          exact ⟨rfl, rfl⟩
        · unfold endL
          rw [wr_ne (by omega), wr_ne (by omega), wr_eq]
        · unfold endL
          rw [wr_ne (by omega), wr_eq]
          rfl
      refine Or.inl ⟨_, nxt b e p, z + 0, fun _ => 1, w, rfl, x1, endL_T t2, wr_eq, by unfold endL; rw [wr_ne (by omega), wr_ne (by omega), wr_ne (by omega), m4]; rfl, by omega, hv, hU2, FrT_tr FrT_mv FrT_L, fun Y a hY h13 => ?_⟩
      obtain ⟨r1, r2⟩ := ref Y a hY
      have r3 := RS_A hY (RS_p r1).2.1 (RS_p r1).2.2.1
      have h13' : setA Y (nxt b e p) 0 13 = say (setA Y (nxt b e p) 5) := by rw [setA_5, ← h13]; exact wr_ne (by omega)
      rw [r2, RS_hasN r1 W11 q2, bnd_s, if_pos rfl, sA_sA]
      obtain ⟨Y', o1, o2, o3, o4⟩ := J39 _ (fun _ => 1) 1 _ _ r3 h13' ⟨fun h => absurd h i1, fun h => absurd h i1⟩
      rw [setA_5] at o3
      exact ⟨Y', _, o1, o2, o3, FrR_tr FrR_A o4⟩
  · rw [k_take_no hT (w := 2) (by omega) q, bnd_s, if_pos (show nI 0 = 0 from rfl)]
    refine Or.inr ⟨X, p, rfl, hT, FrT_rfl, fun Y a hY => ?_⟩
    have h1 := fig Y a hY
    rw [hY.2.2.2.2.1] at h1
    obtain ⟨v, a', g1, g2, g3⟩ := h1.2 (fun h => q h.1)
    have hB := BQ_B (Y := Y) (d := 0) (show a' + 0 ≤ e + 20 by omega) hpe
    refine ⟨_, ?_, hB, FrR_B⟩
    unfold md_ruleLine
    rw [show (0 : Int32) = nI 0 from rfl, show (999 : Int32) = nI 999 from rfl, g3, bnd_s, if_neg (BQ_f hB he)]
/-! the rule: the text -/
theorem J80_q {Y : Mem} {b : Nat → Nat} {e q : Nat} {p1 x2 x3 : Int32} {rec : Int32 → Int32 → Mem → Option (Int32 × Mem)} {K : Int32 → Mem → Option (Int32 × Mem)} (hB : BQ Y e q 0) (hL : LTx Y b e) : ∃ a', md_read_J80 p1 rec K x2 x3 Y = rec 0 (x3 + 1) (setA Y a') ∧ Y 0 10 = nI q ∧ ¬ setA Y a' 0 10 = -1 := by
  have he := hL.2.1
  obtain ⟨a, h1, h2⟩ := hB.2.2
  have hf : ¬ setA Y (skp b e a) 0 10 = -1 := by rw [setA_10]; exact BQ_f hB he
  refine ⟨skp b e a, ?_, hB.1, hf⟩
  unfold md_read_J80
  rw [r_skip hL h2 (by omega), bind_s, if_neg hf]
theorem LTx_R {Y Y' : Mem} {b : Nat → Nat} {e : Nat} (h : LTx Y b e) (h2 : FrR Y Y') : LTx Y' b e := LTx_cong h fun r i hr => h2 r i (by omega)
def TxS (X : Mem) (b : Nat → Nat) (e p : Nat) (say : (Nat → Int32) → Int32) (A : Option (Int32 × Mem)) (G : Mem → Option (Int32 × Mem)) : Prop :=
  (∃ X' ln z' say', A = some (1, X') ∧ ln ≤ 12 ∧ X' 63 0 = nI ln ∧ z' ≤ 400 ∧ RU (X' 64) (X' 65) (X' 66) ln z' say' ∧ (∀ F, say' F = -1 ∨ ∃ u, u ≤ 999 ∧ say' F = nI u) ∧ FrT X X' ∧ ∀ Y a, RS Y b e a p 0 → Y 0 13 = say (Y 5) → ∃ Y', G Y = some (nI ln, Y') ∧ Y' 0 10 = -1 ∧ Y' 0 13 = say' (Y 5) ∧ FrR Y Y') ∨
  (∃ X' q, A = some (0, X') ∧ TPo X' b e q ∧ FrT X X' ∧ ∀ Y a, RS Y b e a p 0 → Y 0 13 = say (Y 5) → ∃ v Y', G Y = some (v, Y') ∧ Y' 0 10 = nI q ∧ ¬ Y' 0 10 = -1 ∧ FrR Y Y')
theorem rtext_sim {b : Nat → Nat} {e : Nat} (he : e ≤ 400) : ∀ m k fu fu2 (X : Mem) p z say, k + m = 12 → m < fu → m + 2 < fu2 → TPo X b e p → X 63 0 = nI k → X 63 4 = nI z → z ≤ p → RU (X 64) (X 65) (X 66) k z say → (∀ F, say F = -1 ∨ ∃ u, u ≤ 999 ∧ say F = nI u) → TxS X b e p say (rd_readText_L24 (fun M9 => some ((0 : Int32), M9)) fu (nI k) X) (fun Y => md_read_L23 1 (fun v3_10 M12 => some (v3_10, M12)) fu2 1 (nI k) Y) := by
  intro m
  induction m with
  | zero =>
    intro k fu fu2 X p z say hk hf hf2 hT h0 h4 hz hU hS
    obtain ⟨fu, rfl⟩ : ∃ f, fu = f + 1 := ⟨fu - 1, by omega⟩
    obtain ⟨fu2, rfl⟩ : ∃ f, fu2 = f + 1 + 1 := ⟨fu2 - 2, by omega⟩
    obtain rfl : k = 12 := by omega
    have hpe := TPo_le hT
    rw [rd_readText_L24, if_neg (show ¬ nI 12 < 12 by decide)]
    refine Or.inr ⟨X, p, rfl, hT, FrT_rfl, fun Y a hY h13 => ?_⟩
    obtain ⟨s1, hs⟩ := RS_skip hY
    have hB := BQ_B (Y := Y) (a := p) (d := 0) (by omega) hpe
    obtain ⟨a', a2, a3, a4⟩ := J80_q (p1 := 1) (x2 := 1) (x3 := nI 12) (rec := fun a2 a3 aM => md_read_L23 1 (fun v3_10 M12 => some (v3_10, M12)) (fu2 + 1) a2 a3 aM) (K := fun v3_10 M12 => some (v3_10, M12)) hB (LTx_R hY.1 FrR_B)
    refine ⟨nI 12 + 1, setA (wr (setA Y p) 0 10 (nI p)) a', ?_, by rw [setA_10]; exact a3, a4, FrR_tr FrR_B FrR_A⟩
    show md_read_L23 1 (fun v3_10 M12 => some (v3_10, M12)) (fu2 + 1 + 1) 1 (nI 12) Y = _
    rw [md_read_L23, if_neg (show ¬ (1 : Int32) = 0 by decide), hY.2.1, if_pos rfl, s1, bind_s, if_neg (show ¬ (1 : Int32) = 0 by decide)]
    unfold md_read_J51
    rw [if_pos (show nI 12 = 12 from rfl), setA_9, r_wrong _ hs.2.1, bind_s, a2, md_read_L23, if_pos rfl]
  | succ m ih =>
    intro k fu fu2 X p z say hk hf hf2 hT h0 h4 hz hU hS
    obtain ⟨fu, rfl⟩ : ∃ f, fu = f + 1 := ⟨fu - 1, by omega⟩
    obtain ⟨fu2, rfl⟩ : ∃ f, fu2 = f + 1 + 1 := ⟨fu2 - 2, by omega⟩
    have hpe := TPo_le hT
    have i1 : ¬ (1 : Int32) = 0 := by decide
    have ref : ∀ Y a, RS Y b e a p 0 → RS (setA Y p) b e p p 0 ∧ md_read_L23 1 (fun v3_10 M12 => some (v3_10, M12)) (fu2 + 1 + 1) 1 (nI k) Y = (md_ruleLine (setA Y p)).bind fun M9 => md_read_J80 1 (fun a2 a3 aM => md_read_L23 1 (fun v3_10 M12 => some (v3_10, M12)) (fu2 + 1) a2 a3 aM) (fun v3_10 M12 => some (v3_10, M12)) 1 (nI k) M9 := fun Y a hY => by
      obtain ⟨s1, hs⟩ := RS_skip hY
      refine ⟨hs, ?_⟩
      rw [md_read_L23, if_neg i1, hY.2.1, if_pos rfl, s1, bind_s, if_neg i1]
      unfold md_read_J51
      rw [if_neg (show ¬ nI k = 12 by rw [show (12 : Int32) = nI 12 from rfl, n_eq (by omega) (by omega)]; omega), if_neg i1]
    rw [rd_readText_L24, if_pos (show nI k < 12 by rw [show (12 : Int32) = nI 12 from rfl, n_lt (by omega) (by omega)]; omega)]
    rcases rline_sim he hT h0 h4 hz (by omega) hU with ⟨X', p', z', v, w, g1, g2, g3, g4, g5, g6, g7, g8, g9, g10⟩ | ⟨X', q, g1, g2, g3, g4⟩
    · have hl := KD_le b e p'
      have hle := TPo_le g3
      have hS2 := say_ok (v := v) hS g7
      have ref2 : ∀ Y a, RS Y b e a p 0 → Y 0 13 = say (Y 5) → ∃ Y' , RS Y' b e p' p' 0 ∧ Y' 0 13 = sayN say v w (Y 5) ∧ FrR Y Y' ∧ md_read_L23 1 (fun v3_10 M12 => some (v3_10, M12)) (fu2 + 1 + 1) 1 (nI k) Y = if p' = e then some (nI (k + 1), Y') else bnd2 (md_isSign ((59 : Int32)) Y') fun v6 M5 => (if v6 = 0 then (md_wrong ((M5 0 9)) M5).bind fun M7 => md_read_L23 1 (fun v3_10 M12 => some (v3_10, M12)) (fu2 + 1) 1 (nI (k + 1)) (M7) else lt1 (wr M5 0 9 ((M5 0 9) + (1 : Int32))) fun M8 => md_read_L23 1 (fun v3_10 M12 => some (v3_10, M12)) (fu2 + 1) 1 (nI (k + 1)) (M8)) := fun Y a hY h13 => by
        obtain ⟨hs, r2⟩ := ref Y a hY
        have h13' : setA Y p 0 13 = say (setA Y p 5) := by rw [setA_5, ← h13]; exact wr_ne (by omega)
        obtain ⟨Y1, a1, o1, o2, o3, o4⟩ := g10 _ _ hs h13'
        rw [setA_5] at o3
        obtain ⟨t1, ts⟩ := RS_skip o2
        refine ⟨setA Y1 p', ts, by rw [← o3]; exact wr_ne (by omega), FrR_tr FrR_A (FrR_tr o4 FrR_A), ?_⟩
        rw [r2, o1, bind_s]
        unfold md_read_J80
        rw [t1, bind_s, ts.2.1, if_pos rfl, setA_9, ts.1.1, show nI k + 1 = nI (k + 1) from n_add _ _]
        by_cases c : p' = e
        · rw [if_pos (by rw [c]), if_pos c]
          show md_read_L23 1 (fun v3_10 M12 => some (v3_10, M12)) (fu2 + 1) 0 (nI (k + 1)) (setA Y1 p') = _
          rw [md_read_L23, if_pos rfl]
        · rw [if_neg (by rw [n_eq (by omega) (by omega)]; exact c), if_neg c]
      rw [g1, bnd_s, if_neg i1, k_thing g3, bind_s, show (1 : Int32) = nI 1 from rfl, teq_n (by omega) (by omega)]
      by_cases c : p' = e
      · rw [if_pos (by rw [c]; exact decide_eq_true (KD_end (Nat.le_refl e)))]
        refine Or.inl ⟨X', k + 1, z', _, rfl, by omega, g4, by omega, g8, hS2, g9, fun Y a hY h13 => ?_⟩
        obtain ⟨Y', o1, o2, o3, o4⟩ := ref2 Y a hY h13
        refine ⟨Y', ?_, o1.2.1, o2, o3⟩
        show md_read_L23 1 (fun v3_10 M12 => some (v3_10, M12)) (fu2 + 1 + 1) 1 (nI k) Y = _
        rw [o4, if_pos c]
      · have q1 : ¬ KD b e p' = 1 := fun h1 => by have := KD_1 h1; omega
        rw [if_neg (by rw [decide_eq_false q1]; decide)]
        by_cases q2 : KD b e p' = 24
        · obtain ⟨u1, u2⟩ := k_take_yes g3 (w := 24) (by omega) (by omega) q2
          have hp1 : p' < e := by omega
          obtain ⟨y1, y2⟩ := nxt_gt (b := b) hp1
          rw [show tp_take 24 X' = _ from u1, bnd_s, if_neg (show ¬ nI 1 = 0 by decide), show nI k + nI 1 = nI (k + 1) from n_add _ _]
          rcases ih (k + 1) fu (fu2 + 1) (mvT X') (nxt b e p') z' _ (by omega) (by omega) (by omega) u2 (by rw [mvT_ne (by omega), g4]) (by rw [mvT_ne (by omega), g5]) (by omega) (RU_cong g8 (fun j hj => ⟨mvT_ne (by omega), mvT_ne (by omega)⟩) fun i hi => mvT_ne (by omega)) hS2 with ⟨X2, ln, z2, say2, f1, f2, f3, f4, f5, f6, f7, f8⟩ | ⟨X2, q, f1, f2, f3, f4⟩
          · refine Or.inl ⟨X2, ln, z2, say2, f1, f2, f3, f4, f5, f6, FrT_tr g9 (FrT_tr FrT_mv f7), fun Y a hY h13 => ?_⟩
            obtain ⟨Y', o1, o2, o3, o4⟩ := ref2 Y a hY h13
            obtain ⟨s1, s2, s3⟩ := RS_sgnY o1 S59 (by omega) q2
            have e5 : Y' 5 = Y 5 := funext fun i => o3 5 i (by omega)
            obtain ⟨Y2, z1, z2, z3, z4⟩ := f8 _ _ (rs_next o1 hp1) (by rw [setA_5, e5, ← o2]; exact wr_ne (by omega))
            refine ⟨Y2, ?_, z2, by rw [z3, setA_5, e5], FrR_tr o3 (FrR_tr FrR_A z4)⟩
            show md_read_L23 1 (fun v3_10 M12 => some (v3_10, M12)) (fu2 + 1 + 1) 1 (nI k) Y = _
            rw [o4, if_neg c, show (59 : Int32) = nI 59 from rfl, s1, bnd_s, if_neg i1, lt1_ap, setA_9, show nI p' + 1 = nI (p' + 1) from n_add _ _, show wr (setA Y' p') 0 9 (nI (p' + 1)) = setA Y' (p' + 1) from wr_wr, ← s2]
            exact z1
          · refine Or.inr ⟨X2, q, f1, f2, FrT_tr g9 (FrT_tr FrT_mv f3), fun Y a hY h13 => ?_⟩
            obtain ⟨Y', o1, o2, o3, o4⟩ := ref2 Y a hY h13
            obtain ⟨s1, s2, s3⟩ := RS_sgnY o1 S59 (by omega) q2
            have e5 : Y' 5 = Y 5 := funext fun i => o3 5 i (by omega)
            obtain ⟨v2, Y2, z1, z2, z3, z4⟩ := f4 _ _ (rs_next o1 hp1) (by rw [setA_5, e5, ← o2]; exact wr_ne (by omega))
            refine ⟨v2, Y2, ?_, z2, z3, FrR_tr o3 (FrR_tr FrR_A z4)⟩
            show md_read_L23 1 (fun v3_10 M12 => some (v3_10, M12)) (fu2 + 1 + 1) 1 (nI k) Y = _
            rw [o4, if_neg c, show (59 : Int32) = nI 59 from rfl, s1, bnd_s, if_neg i1, lt1_ap, setA_9, show nI p' + 1 = nI (p' + 1) from n_add _ _, show wr (setA Y' p') 0 9 (nI (p' + 1)) = setA Y' (p' + 1) from wr_wr, ← s2]
            exact z1
        · rw [show tp_take 24 X' = _ from k_take_no g3 (w := 24) (by omega) q2, bnd_s, if_pos (show nI 0 = 0 from rfl)]
          refine Or.inr ⟨X', p', rfl, g3, g9, fun Y a hY h13 => ?_⟩
          obtain ⟨Y', o1, o2, o3, o4⟩ := ref2 Y a hY h13
          have o5 := RS_A o1 hle (RS_p o1).2.2.1
          have hB := BQ_B (Y := Y') (a := p') (d := 0) (by omega) hle
          refine ⟨nI (k + 1), wr (setA Y' p') 0 10 (nI p'), ?_, hB.1, BQ_f hB he, FrR_tr o3 FrR_B⟩
          show md_read_L23 1 (fun v3_10 M12 => some (v3_10, M12)) (fu2 + 1 + 1) 1 (nI k) Y = _
          rw [o4, if_neg c, show (59 : Int32) = nI 59 from rfl, RS_sgnN o1 S59 (by omega) q2, bnd_s, if_pos rfl, setA_9, r_wrong _ o5.2.1, bind_s, md_read_L23, if_neg i1, if_neg (BQ_f hB he)]
    · rw [g1, bnd_s, if_pos rfl]
      refine Or.inr ⟨X', q, rfl, g2, g3, fun Y a hY h13 => ?_⟩
      obtain ⟨hs, r2⟩ := ref Y a hY
      obtain ⟨Y1, o1, o2, o3⟩ := g4 _ _ hs
      obtain ⟨a', a2, a3, a4⟩ := J80_q (p1 := 1) (x2 := 1) (x3 := nI k) (rec := fun a2 a3 aM => md_read_L23 1 (fun v3_10 M12 => some (v3_10, M12)) (fu2 + 1) a2 a3 aM) (K := fun v3_10 M12 => some (v3_10, M12)) o2 (LTx_R hs.1 o3)
      refine ⟨nI k + 1, setA Y1 a', ?_, by rw [setA_10]; exact a3, a4, FrR_tr FrR_A (FrR_tr o3 FrR_A)⟩
      show md_read_L23 1 (fun v3_10 M12 => some (v3_10, M12)) (fu2 + 1 + 1) 1 (nI k) Y = _
      rw [r2, o1, bind_s, a2, md_read_L23, if_pos rfl]
