/-! plan -/
theorem fill_L {v : Int32} {K : Mem → Option Mem} : ∀ m k fu (M : Mem), k + m = 2048 → m < fu → ∃ M', ja_fill_L5 83 2048 v (nI 2048) K fu (nI k) M = K M' ∧ (∀ s, k ≤ s → s < 2048 → M' 83 s = v) ∧ (∀ r i, ¬ (r = 83 ∧ k ≤ i) → M' r i = M r i)
  | 0, k, 0, M, _, hf => absurd hf (by omega)
  | 0, k, fu + 1, M, hk, _ => by
    refine ⟨M, ?_, fun s h1 h2 => absurd h2 (by omega), fun _ _ _ => rfl⟩
    rw [ja_fill_L5]
    simp (disch := omega) only [n_lit, n_lt, if_neg]
  | m + 1, k, 0, M, _, hf => absurd hf (by omega)
  | m + 1, k, fu + 1, M, hk, hf => by
    obtain ⟨M', e1, e2, e3⟩ := fill_L (v := v) (K := K) m (k + 1) fu (wr M 83 k v) (by omega) (by omega)
    refine ⟨M', ?_, fun s h1 h2 => ?_, fun r i hr => ?_⟩
    · rw [ja_fill_L5, ← e1]
      simp (disch := omega) only [n_lit, n_lt, if_pos, chk_in, n_cl, lt1_ap, n_add]
    · by_cases e : s = k
      · subst e
        rw [e3 _ _ (by omega), wr_eq]
      · exact e2 s (by omega) h2
    · rw [e3 r i (by omega), wr_ne (by omega)]
theorem k_search {c : Nat → Nat} {g s0 : Nat} {bm : Bool} {M : Mem} (hV : MV M c) (hg : g < 2048) (hs : sts c s0) : ∃ M' G ns z bo, pl_search (nI s0) (nI g) (bI bm) M = some (bI (decide (¬ bo = none)), M') ∧ SD c g bm s0 M' G ns z bo ∧ (∀ r i, r < 80 → ¬ (r = 75 ∧ i = 10) → M' r i = M r i) := by
  have hw := hV.2.2
  have s2 := sts_2048 hw hs
  obtain ⟨M7, e1, e2, e3⟩ := fill_L (v := nI 2147483647) (K := fun M3 => some M3) 2048 0 FU (wr (wr (wr (wr (wr (wr M 82 7 (nI s0)) 82 8 (nI g)) 82 9 (bI bm)) 82 10 (-1)) 82 5 (nI 0)) 82 6 (nI 0)) (by omega) (by rw [FUe]; omega)
  have f5 : M7 82 5 = nI 0 := by rw [e3 _ _ (by omega), wr_ne (by omega), wr_eq]
  have f6 : M7 82 6 = nI 0 := by rw [e3 _ _ (by omega), wr_eq]
  have f7 : M7 82 7 = nI s0 := by rw [e3 _ _ (by omega), wr_ne (by omega), wr_ne (by omega), wr_ne (by omega), wr_ne (by omega), wr_ne (by omega), wr_eq]
  have f8 : M7 82 8 = nI g := by rw [e3 _ _ (by omega), wr_ne (by omega), wr_ne (by omega), wr_ne (by omega), wr_ne (by omega), wr_eq]
  have f9 : M7 82 9 = bI bm := by rw [e3 _ _ (by omega), wr_ne (by omega), wr_ne (by omega), wr_ne (by omega), wr_eq]
  have f10 : M7 82 10 = -1 := by rw [e3 _ _ (by omega), wr_ne (by omega), wr_ne (by omega), wr_eq]
  have fr : ∀ r i, r < 82 → M7 r i = M r i := fun r i hr => by rw [e3 r i (by omega), wr_ne (by omega), wr_ne (by omega), wr_ne (by omega), wr_ne (by omega), wr_ne (by omega), wr_ne (by omega)]
  have hG : ∀ s, upf (fun _ => 2147483647) s0 0 s < 2147483647 → s = s0 := fun s h => by
    refine Classical.byContradiction fun e => ?_
    rw [upf_ne e] at h
    omega
  have hD8 : DM (wr (wr (wr M7 84 0 (nI s0)) 82 5 (nI 1)) 83 s0 (nI 0)) (upf (fun _ => 2147483647) s0 0) 1 (fun _ => s0) := by
    refine ⟨by rw [wr_ne (by omega), wr_eq], fun s hs => ?_, fun i hi => ?_⟩
    · by_cases e : s = s0
      · rw [e, wr_eq, upf_eq]
      · rw [wr_ne (by omega), wr_ne (by omega), wr_ne (by omega), upf_ne e]
        exact e2 s (by omega) hs
    · rw [show i = 0 by omega, wr_ne (by omega), wr_ne (by omega), wr_eq]
  have hSM : SM (wr (wr (wr M7 84 0 (nI s0)) 82 5 (nI 1)) 83 s0 (nI 0)) g s0 bm 0 (fun _ => 0) none := by
    refine ⟨?_, fun i hi => absurd hi (by omega), ?_, ?_, ?_, ?_⟩
    · rw [wr_ne (by omega), wr_ne (by omega), wr_ne (by omega), f6]
    · rw [wr_ne (by omega), wr_ne (by omega), wr_ne (by omega), f7]
    · rw [wr_ne (by omega), wr_ne (by omega), wr_ne (by omega), f8]
    · rw [wr_ne (by omega), wr_ne (by omega), wr_ne (by omega), f9]
    · rw [wr_ne (by omega), wr_ne (by omega), wr_ne (by omega), f10]
      rfl
  have hSB : SB c g bm s0 (upf (fun _ => 2147483647) s0 0) 0 (fun _ => 0) none := by
    refine ⟨fun s => ?_, fun s h => by rw [hG s h]; exact hs, fun i hi => absurd hi (by omega), fun i j _ hj => absurd hj (by omega), fun i hi => absurd hi (by omega), fun s h => by rw [hG s h, upf_eq]; omega, fun s h m a hk => ?_, fun P p0 _ s h => by rw [hG s h]; exact p0, upf_eq, fun _ i hi => absurd hi (by omega), fun b e => nomatch e⟩
    · by_cases e : s = s0
      · rw [e, upf_eq]; omega
      · rw [upf_ne e]; exact Nat.le_refl _
    · have := hG s h
      subst this
      exact ⟨m, a, hk, by rw [upf_eq, Nat.zero_add]⟩
  have hcnt : ∀ n, ct (fun s => decide ((fun _ : Nat => 2147483647) s < 2147483647)) n = 0 := fun n => by
    induction n with
    | zero => rfl
    | succ n ih =>
      unfold ct
      rw [ih]
      rfl
  have hSO : SO (upf (fun _ => 2147483647) s0 0) 1 (fun _ => s0) 0 (fun _ => 0) := by
    refine ⟨?_, fun s => ⟨fun h => Or.inl ⟨0, by omega, (hG s h).symm⟩, fun h => ?_⟩, fun i j hi => absurd hi (by omega)⟩
    · rw [fnG_new s2 rfl (by omega)]
      have := hcnt 2048
      unfold fnG
      omega
    · rcases h with ⟨i, _, h⟩ | ⟨i, hi, _⟩
      · rw [← h, upf_eq]; omega
      · omega
  obtain ⟨M', G', ns', z', bo', i1, i2, i3⟩ := ks_srch (c := c) (g := g) (s0 := s0) (bm := bm) (p1 := nI s0) (p2 := nI g) (p3 := bI bm) hw hg (K := fun M17 => (if (M17 82 10) = (-1 : Int32) then some ((0 : Int32), M17) else some ((1 : Int32), M17))) 2048 0 FU _ _ _ _ _ _ (by omega) (by rw [FUe]; omega) hD8 hSM hSB hSO (MV_fr hV fun r i hr => by rw [wr_ne (by omega), wr_ne (by omega), wr_ne (by omega), fr r i hr])
  refine ⟨M', G', ns', z', bo', ?_, i2, fun r i hr h => by rw [i3 r i hr h, wr_ne (by omega), wr_ne (by omega), wr_ne (by omega), fr r i (by omega)]⟩
  have hfill : ja_fill 83 2048 (nI 2147483647) (wr (wr (wr (wr (wr (wr M 82 7 (nI s0)) 82 8 (nI g)) 82 9 (bI bm)) 82 10 (-1)) 82 5 (nI 0)) 82 6 (nI 0)) = some M7 := e1
  have hreach : pl_reach (nI s0) (nI 0) M7 = some (wr (wr (wr M7 84 0 (nI s0)) 82 5 (nI 1)) 83 s0 (nI 0)) := by
    unfold pl_reach
    simp (disch := omega) only [n_lit, chk_in, n_cl, e2 s0 (Nat.zero_le _) s2, n_lt, if_pos, if_true, f5, lt1_ap]
    rw [wr_ne (M := M7) (by omega), f5, n_add]
  have hm10 : M' 82 10 = bstI bo' := i2.2.1.2.2.2.2.2
  unfold pl_search
  simp only [lt1_ap, chk_bI]
  simp only [n_lit]
  rw [show (-nI 1 : Int32) = -1 from rfl, hfill]
  simp only [bind_s]
  rw [f7, hreach]
  simp only [bind_s]
  refine Eq.trans i1 ?_
  rw [hm10]
  cases hb : bo' with
  | none => rfl
  | some b =>
    have hbb : b < 2147483648 := by
      obtain ⟨⟨i, hi, hgi⟩, c2, c3⟩ := i2.2.2.2.1.2.2.2.2.2.2.2.2.2.2 b hb
      have := c3 i hi hgi
      have := i2.2.2.2.1.1 (z' i)
      omega
    unfold bstI
    dsimp only
    rw [if_neg (nI_nm hbb)]
    rfl
/-- no way costs less -/
theorem SD_low {c : Nat → Nat} {g s0 ns b : Nat} {bm : Bool} {M : Mem} {G z : Nat → Nat} (h : SD c g bm s0 M G ns z (some b)) : ∀ m s a, wk c g m s a → G s < 2147483647 → b ≤ G s + kc bm a m := by
  obtain ⟨h83, hSM, hV, ⟨a2, a3, a4, a5, a7, a8, a9, a10, a11, b0, b1⟩, hns, hdone⟩ := h
  obtain ⟨⟨_, _, _⟩, c2, c3⟩ := b1 b rfl
  have hw := hV.2.2
  intro m
  induction m with
  | zero =>
    intro s a hk hf
    by_cases q : b < G s
    · omega
    · obtain ⟨i, hi, e⟩ := hdone s hf fun b' e => by injection e with e; omega
      have := c3 i hi (by rw [e]; exact hk.1)
      rw [e] at this
      omega
  | succ m ih =>
    intro s a hk hf
    by_cases q : b < G s
    · omega
    · obtain ⟨i, hi, e⟩ := hdone s hf fun b' e => by injection e with e; omega
      by_cases hgs : gl g s
      · have := c3 i hi (by rw [e]; exact hgs)
        rw [e] at this
        omega
      · obtain ⟨k, a', h1, h2, h3⟩ := hk
        have h4 := a7 i hi (by rw [e]; exact hgs) k (by rw [e]; exact h1)
        rw [e] at h4
        have h5 := kc1_le (bm := bm) (tk_le hw s k)
        have h6 := a8 s hf
        have h7 : 282625 * ns ≤ 282625 * 2048 := Nat.mul_le_mul_left _ hns
        have h8 := ih (nx s k) a' h2 (by omega)
        have h9 := kc_add bm a' m (tk c s k) 1
        rw [h3, Nat.add_comm (tk c s k) a']
        omega
theorem SD_none {c : Nat → Nat} {g s0 ns : Nat} {bm : Bool} {M : Mem} {G z : Nat → Nat} (h : SD c g bm s0 M G ns z none) : ∀ m s a, wk c g m s a → ¬ G s < 2147483647 := by
  obtain ⟨h83, hSM, hV, ⟨a2, a3, a4, a5, a7, a8, a9, a10, a11, b0, b1⟩, hns, hdone⟩ := h
  have hw := hV.2.2
  intro m
  induction m with
  | zero =>
    intro s a hk hf
    obtain ⟨i, hi, e⟩ := hdone s hf fun b' e => nomatch e
    exact b0 rfl i hi (by rw [e]; exact hk.1)
  | succ m ih =>
    intro s a hk hf
    obtain ⟨i, hi, e⟩ := hdone s hf fun b' e => nomatch e
    obtain ⟨k, a', h1, h2, h3⟩ := hk
    have h4 := a7 i hi (b0 rfl i hi) k (by rw [e]; exact h1)
    rw [e] at h4
    have h5 := kc1_le (bm := bm) (tk_le hw s k)
    have h6 := a8 s hf
    have h7 : 282625 * ns ≤ 282625 * 2048 := Nat.mul_le_mul_left _ hns
    exact ih (nx s k) a' h2 (by omega)
theorem SD_best {c : Nat → Nat} {g s0 ns : Nat} {bm : Bool} {M : Mem} {G z : Nat → Nat} {bo : Option Nat} (h : SD c g bm s0 M G ns z bo) (hs : sts c s0) : (bo = none ∧ nway c g s0) ∨ ∃ a m, bo = some (kc bm a m) ∧ opt c g bm s0 a m := by
  have hw := h.2.2.1.2.2
  have h0 := h.2.2.2.1.2.2.2.2.2.2.2.2.1
  cases bo with
  | none => exact Or.inl ⟨rfl, fun m a hk => SD_none h m s0 a hk (by omega)⟩
  | some b =>
    have hlow := SD_low h
    obtain ⟨h83, hSM, hV, ⟨a2, a3, a4, a5, a7, a8, a9, a10, a11, b0, b1⟩, hns, hdone⟩ := h
    obtain ⟨⟨i, hi, hgi⟩, c2, c3⟩ := b1 b rfl
    obtain ⟨m', a', w1, w2⟩ := a9 (z i) (a4 i hi) 0 0 ⟨hgi, rfl⟩
    obtain ⟨a, m, ho⟩ := opt_ex (bm := bm) w1
    refine Or.inr ⟨a, m, ?_, ho⟩
    have e1 := opt_kc hw hs ho w1
    have e2 := hlow m s0 a ho.1 (by omega)
    have e3 := c3 i hi hgi
    have e4 : kc bm 0 0 = 0 := by unfold kc; split <;> rfl
    congr 1
    omega
theorem s0_sts {c : Nat → Nat} {T : Nat} (hb : WB T c) : sts c (2 * c 4 + c 3) := by
  have h1 := hb.2.1
  have h2 := hb.2.2.1
  unfold sts
  rw [show (2 * c 4 + c 3) / 2 = c 4 by omega]
  exact h2
theorem isB_or {p : Int32} (h : isB p = true) : ∃ b, p = bI b := by
  unfold isB at h
  rw [Bool.or_eq_true, beq_iff_eq, beq_iff_eq] at h
  rcases h with h | h
  · exact ⟨false, h⟩
  · exact ⟨true, h⟩
theorem m_find {T : Nat} {X Y : Mem} {c : Nat → Nat} (h : SV T X Y c) (hT : T ≤ 520) (bm : Bool) (P : Nat) : ∃ X' G ns z bo, rf_findPlan (nI P) (bI bm) X = some (bI (decide (¬ bo = none)), X') ∧ SD c (P &&& al c) bm (2 * c 4 + c 3) X' G ns z bo ∧ LV X' c ∧ Z0 X' ∧ (∀ r i, r < 75 → X' r i = X r i) := by
  have hLV := SV_LV h hT
  obtain ⟨hR, hB, hw, hb, hY, hz⟩ := id h
  obtain ⟨X1, e1, e2, e3, e4, e5⟩ := k_prepare hLV hz
  have h4 : c 4 < 2 ^ c 1 := hb.2.2.1
  have h10 := pw_10 (WR_n hw)
  have l1 : P &&& al c < 2 ^ c 1 := and_lt P (WR_al hw).2.1
  obtain ⟨X2, G, ns, z, bo, f1, f2, f3⟩ := k_search (bm := bm) (g := P &&& al c) e2 (by omega) (s0_sts hb)
  refine ⟨X2, G, ns, z, bo, ?_, f2, LV_cong e3 fun r i hr => f3 r i (by omega) (by omega), ⟨?_, ?_, ?_⟩, fun r i hr => by rw [f3 r i (by omega) (by omega), e5 r i (by omega)]⟩
  · unfold rf_findPlan
    rw [e1]
    simp only [bind_s]
    rw [k_state e3.2.1 hb.2.1 (by omega)]
    simp only [bind_s]
    rw [e2.2.1.1, n_and, f1]
    unfold bnd2
    dsimp only
    rw [chk_bI]
  · rw [f3 _ _ (by omega) (by omega)]; exact e4.1
  · rw [f3 _ _ (by omega) (by omega)]; exact e4.2.1
  · rw [f3 _ _ (by omega) (by omega)]; exact e4.2.2
theorem m_plan {T : Nat} {X Y : Mem} {c : Nat → Nat} (h : SV T X Y c) (hT : T ≤ 520) (p1 p2 p3 : Int32) (hp2 : isB p2 = true) : ∃ e v X' u Y', rf_plan p1 p2 p3 X = some (e, v, X') ∧ md_plan p1 p2 p3 Y = some (u, Y') ∧ ((e = 0 ∧ Y' 0 0 = 0 ∧ v = u) ∨ (¬ e = 0 ∧ e = 4 ∧ Y' 0 0 = 1)) ∧ LV X' c ∧ Z0 X' ∧ (∀ r i, r < 75 → X' r i = X r i) ∧ (∀ r i, ¬ (r = 0 ∧ (i = 0 ∨ i = 17)) → ¬ r = 6 → ¬ r = 7 → Y' r i = Y r i) := by
  have hLV := SV_LV h hT
  obtain ⟨hR, hB, hw, hb, hY, hz⟩ := id h
  obtain ⟨bm, rfl⟩ := isB_or hp2
  obtain ⟨P, hP, rfl⟩ := n_of p1
  have h10 := pw_10 (WR_n hw)
  have hs0 := s0_sts hb
  have s2 := sts_2048 hw hs0
  have h3 := hb.2.1
  have h4 : c 4 < 2 ^ c 1 := hb.2.2.1
  have l1 : P &&& al c < 2 ^ c 1 := and_lt P (WR_al hw).2.1
  rcases nodec (n := 2) p3 with ⟨w, hw2, rfl⟩ | hno
  · obtain ⟨X', G, ns, z, bo, f1, f2, f3, f4, f5⟩ := m_find h hT bm P
    have hE0 : EY (wr Y 0 0 (nI 0)) c := EY_fr hY fun i => wr_ne (by omega)
    obtain ⟨Y', A, B, g1, g2, g3, g4, g5⟩ := r_costs (bm := bm) hE0 hw hb hT l1
    have hst := f2.2.1
    have frY : ∀ r i, ¬ (r = 0 ∧ (i = 0 ∨ i = 17)) → ¬ r = 6 → ¬ r = 7 → Y' r i = Y r i := fun r i a b d => by rw [g5 r i (by omega) b d, wr_ne (by omega)]
    have hY0 : Y' 0 0 = 0 := by rw [g5 _ _ (by omega) (by omega) (by omega), wr_eq]; rfl
    have hmd : md_plan (nI P) (bI bm) (nI w) Y = if nI (B (2 * c 4 + c 3)) = nI 100000000 then some (-nI 1, Y') else if nI w = nI 0 then some (nI (A (2 * c 4 + c 3)), Y') else some (nI (B (2 * c 4 + c 3)), Y') := by
      unfold md_plan md_isIn
      simp (disch := omega) only [n_lit, n_lt, if_neg, bind_s]
      rw [if_neg (show ¬ nI 1 = nI 0 by decide)]
      unfold md_plan_J15
      simp only [n_lit, lt1_ap]
      rw [wr_eq, if_neg (show ¬ nI 0 < nI 0 from Int32.lt_irrefl), r_all hE0 hw]
      simp only [bind_s, n_and]
      rw [g1]
      simp only [bind_s]
      unfold md_stateNow
      simp only [n_lit, bind_s]
      rw [EY_n g4 (i := 4) (by omega) (by omega), EY_n g4 (i := 3) (by omega) (by omega), n_mul, n_add]
      simp (disch := omega) only [chk_in, n_cl, (g2 _ hs0).1, (g2 _ hs0).2]
    have hrf : rf_plan (nI P) (bI bm) (nI w) X = rf_plan_J19 (nI P) (bI bm) (nI w) X := by
      unfold rf_plan
      have : w = 0 ∨ w = 1 := by omega
      rcases this with rfl | rfl
      · exact if_pos rfl
      · rw [if_neg (by decide), if_pos (show nI 1 = 1 from rfl)]
    have hJ : rf_plan_J19 (nI P) (bI bm) (nI w) X = if bI (decide (¬ bo = none)) = nI 0 then some (0, -nI 1, X') else if nI w = nI 0 then (pl_minutes X').bind (fun v4 => some (0, v4, X')) else (pl_length X').bind (fun v3 => some (0, v3, X')) := by
      unfold rf_plan_J19
      rw [f1]
      unfold bnd2
      simp only [n_lit]
    rcases SD_best f2 hs0 with ⟨hbo, hway⟩ | ⟨a, m, hbo, hopt⟩
    · subst hbo
      have hB0 : B (2 * c 4 + c 3) = 100000000 := by
        rcases g3 _ hs0 with q | q
        · exact q.2
        · exact absurd q.2.2.1 (hway _ _)
      refine ⟨0, -nI 1, X', -nI 1, Y', ?_, ?_, Or.inl ⟨rfl, hY0, rfl⟩, f3, f4, f5, frY⟩
      · rw [hrf, hJ]
        exact if_pos rfl
      · rw [hmd, hB0, if_pos rfl]
    · subst hbo
      rcases g3 _ hs0 with q | ⟨q1, q2, q3⟩
      · exact absurd hopt.1 (q.1 _ _)
      · obtain ⟨ea, eb⟩ := opt_one hw hs0 q3 hopt
        have bd := opt_bd hw hs0 hopt
        have hmin : pl_minutes X' = some (nI a) := by
          unfold pl_minutes
          rw [hst.2.2.2.2.2, hst.2.2.2.2.1]
          unfold bstI kc
          cases bm
          · simp (disch := omega) only [n_lit, bI_0, if_true, if_false, Bool.false_eq_true, n_div]
            congr 2
            omega
          · simp (disch := omega) only [n_lit, bI_0, if_true, if_false, Bool.true_eq_false, n_rem]
            congr 2
            omega
        have hlen : pl_length X' = some (nI m) := by
          unfold pl_length
          rw [hst.2.2.2.2.2, hst.2.2.2.2.1]
          unfold bstI kc
          cases bm
          · simp (disch := omega) only [n_lit, bI_0, if_true, if_false, Bool.false_eq_true, n_rem]
            congr 2
            omega
          · simp (disch := omega) only [n_lit, bI_0, if_true, if_false, Bool.true_eq_false, n_div]
            congr 2
            omega
        refine ⟨0, if nI w = nI 0 then nI a else nI m, X', if nI w = nI 0 then nI a else nI m, Y', ?_, ?_, Or.inl ⟨rfl, hY0, rfl⟩, f3, f4, f5, frY⟩
        · rw [hrf, hJ, if_neg (show ¬ bI (decide (¬ some (kc bm a m) = none)) = nI 0 by rw [decide_eq_true (p := ¬ some (kc bm a m) = none) (fun e => nomatch e)]; decide), hmin, hlen]
          simp only [bind_s]
          split <;> rfl
        · rw [hmd, ea, eb, if_neg (by rw [n_eq (by omega) (by omega)]; omega)]
          split <;> rfl
  · refine ⟨4, 0, X, 0, wr Y 0 0 1, ?_, ?_, Or.inr ⟨by decide, rfl, wr_eq⟩, hLV, hz, fun _ _ _ => rfl, fun r i hr _ _ => wr_ne (by omega)⟩
    · unfold rf_plan
      simp only [n_lit]
      rw [if_neg (hno 0 (by omega)), if_neg (hno 1 (by omega))]
    · unfold md_plan md_isIn
      rcases pk_ix p3 (n := 2) (by omega) with q | q | ⟨j, q, rfl⟩
      · rw [if_pos (show p3 < 0 from q)]
        rfl
      · by_cases q2 : p3 < 0
        · rw [if_pos q2]
          rfl
        · rw [if_neg q2, if_pos (show (1 : Int32) < p3 by
            rw [Int32.le_iff_toInt_le, n_toI (by omega)] at q
            rw [Int32.lt_iff_toInt_lt, show (1 : Int32).toInt = 1 from rfl]
            omega)]
          rfl
      · exact absurd rfl (hno j q)
