/-! row, move by move -/
theorem frst_ex {c : Nat → Nat} {g s a m : Nat} {bm : Bool} (ho : opt c g bm s a m) (hg : ¬ gl g s) : ∃ k, frst c g bm s k := by
  obtain ⟨k, x, y, hv, hn, ea, em⟩ := opt_step ho hg
  obtain ⟨k, hk, hk2⟩ := pk_least (fun k => ∃ a b x y, opt c g bm s a b ∧ vl c s k ∧ opt c g bm (nx s k) x y ∧ a = x + tk c s k ∧ b = y + 1) ⟨k, a, m, x, y, ho, hv, hn, by omega, em⟩
  exact ⟨k, hk, hk2⟩
theorem row_lock {c : Nat → Nat} {T g s0 ns b kk : Nat} {bm : Bool} {G z A B : Nat → Nat} {p1 p2 : Int32} (hw : WR c) (hb : WB T c) (hT : T ≤ 520) (hg : g < 2048) (hF : optF c g bm A B) {K1 : Mem → Option (Int32 × Mem)} : ∀ r n s fm (M Y : Mem) P a m fa fb, n + r = kk → r < m → n + m ≤ 2047 → r < fa → r < fb → SD c g bm s0 M G ns z (some b) → MKD c g bm G b ns z 0 P M → TG c g bm G b s → sts c s → opt c g bm s a m → frst c g bm s fm → EY Y c → BM c Y A B → ∃ mv M' Y', pl_step_L11 (nI kk) K1 fa (nI s) (nI n) M = some (nI mv, M') ∧ md_row_L64 p1 p2 (nI kk) (fun v5_11 M13 => some (v5_11, M13)) fb (nI s) (nI fm) (nI n) Y = some (nI mv, Y') ∧ (∀ r j, r < 80 → ¬ (r = 75 ∧ j = 10) → M' r j = M r j) ∧ (∀ r i, ¬ (r = 0 ∧ i = 17) → Y' r i = Y r i) := by
  intro r
  induction r with
  | zero =>
    intro n s fm M Y P a m fa fb hn hm h47 hfa hfb hS hP ht hs ho hfm hE hM
    obtain ⟨fa, rfl⟩ : ∃ f, fa = f + 1 := ⟨fa - 1, by omega⟩
    obtain ⟨fb, rfl⟩ : ∃ f, fb = f + 1 := ⟨fb - 1, by omega⟩
    have s2 := sts_2048 hw hs
    have hgs : ¬ gl g s := fun e => by have := (opt_goal0 hw hs ho).mp e; omega
    obtain ⟨k, M3, f1, f2, f3, f4, f5, f6, f7⟩ := k_frst hS hP ht hgs
    have ek : k = fm := frst_one f3 hfm
    subst ek
    have hnk : n = kk := by omega
    subst hnk
    refine ⟨k, M3, Y, ?_, ?_, f7, fun _ _ _ => rfl⟩
    · rw [pl_step_L11, k_goal hS.2.1.2.2.2.1 hg (by omega)]
      simp (disch := omega) only [n_lit, n_lt, if_pos, bind_s]
      rw [decide_eq_false hgs, if_pos (show bI false = nI 0 from rfl), f1]
      unfold bnd2
      dsimp only
      exact if_pos trivial
    · rw [md_row_L64]
      simp (disch := omega) only [n_lt, if_neg]
  | succ r ih =>
    intro n s fm M Y P a m fa fb hn hm h47 hfa hfb hS hP ht hs ho hfm hE hM
    obtain ⟨fa, rfl⟩ : ∃ f, fa = f + 1 := ⟨fa - 1, by omega⟩
    obtain ⟨fb, rfl⟩ : ∃ f, fb = f + 1 := ⟨fb - 1, by omega⟩
    have s2 := sts_2048 hw hs
    have hn10 := WR_n hw
    have hgs : ¬ gl g s := fun e => by have := (opt_goal0 hw hs ho).mp e; omega
    obtain ⟨k, M3, f1, f2, f3, f4, f5, f6, f7⟩ := k_frst hS hP ht hgs
    have ek : k = fm := frst_one f3 hfm
    subst ek
    have hk2 := f2.1
    obtain ⟨_, x, y, on, ea, em⟩ := opt_b (x := 0) (y := 0) hw hs f3 ho
    have hu := nx_lt hw hs f2
    have hgn : ¬ gl g (nx s k) := fun e => by have := (opt_goal0 hw hu on).mp e; omega
    obtain ⟨k2, hk3⟩ := frst_ex on hgn
    have hE2 : EY (rY Y (tk c s k)) c := EY_fr hE fun i => by
      unfold rY
      split
      · rfl
      · exact wr_ne (by omega)
    have fr2 : ∀ r i, ¬ (r = 0 ∧ i = 17) → rY Y (tk c s k) r i = Y r i := fun r i hr => by
      unfold rY
      split
      · rfl
      · exact wr_ne hr
    have hM2 : BM c (rY Y (tk c s k)) A B := fun u hu => by
      rw [fr2 _ _ (by omega), fr2 _ _ (by omega)]
      exact hM u hu
    obtain ⟨Y2, g1, g2, g3, g4⟩ := r_first hE2 hM2 hw hb hT hu on hk3 hF
    obtain ⟨mv, M', Y', i1, i2, i3, i4⟩ := ih (n + 1) (nx s k) k2 M3 Y2 P x y fa fb (by omega) (by omega) (by omega) (by omega) (by omega) f5 f6 f4 hu on hk3 g2 g3
    refine ⟨mv, M', Y', ?_, ?_, fun q j hq hq2 => by rw [i3 q j hq hq2, f7 q j hq hq2], fun q i hq => by rw [i4 q i hq, g4 q i hq, fr2 q i hq]⟩
    · rw [pl_step_L11, k_goal hS.2.1.2.2.2.1 hg (by omega)]
      simp (disch := omega) only [n_lit, n_lt, if_pos, bind_s]
      rw [decide_eq_false hgs, if_pos (show bI false = nI 0 from rfl), f1]
      unfold bnd2
      dsimp only
      rw [if_neg (show ¬ nI n = nI kk by rw [n_eq (by omega) (by omega)]; omega), if_neg (show ¬ nI k = -nI 1 from nI_nm (by omega)), k_behind s2 (by omega), bind_s, n_add]
      exact i1
    · rw [md_row_L64]
      simp (disch := omega) only [n_lit, n_lt, if_pos]
      rw [r_behind hE hw hb hT hs hk2]
      unfold bnd2 nxI
      dsimp only
      rw [if_neg f2.2, g1]
      dsimp only
      rw [n_add]
      exact i2
theorem row_none {c : Nat → Nat} {g s0 ns b : Nat} {bm : Bool} {G z : Nat → Nat} {p : Int32} (hw : WR c) (hg : g < 2048) {K : Mem → Option (Int32 × Mem)} : ∀ r n s (M : Mem) P a fu, (∀ j, n ≤ j → j < n + r → ¬ nI j = p) → n + r ≤ 2047 → r < fu → SD c g bm s0 M G ns z (some b) → MKD c g bm G b ns z 0 P M → TG c g bm G b s → sts c s → opt c g bm s a r → ∃ M', pl_step_L11 p K fu (nI s) (nI n) M = K M' ∧ (∀ r j, r < 80 → ¬ (r = 75 ∧ j = 10) → M' r j = M r j) := by
  intro r
  induction r with
  | zero =>
    intro n s M P a fu hp h47 hf hS hP ht hs ho
    obtain ⟨fu, rfl⟩ : ∃ f, fu = f + 1 := ⟨fu - 1, by omega⟩
    have s2 := sts_2048 hw hs
    have hgs : gl g s := (opt_goal0 hw hs ho).mpr rfl
    refine ⟨M, ?_, fun _ _ _ _ => rfl⟩
    rw [pl_step_L11, k_goal hS.2.1.2.2.2.1 hg (by omega)]
    simp (disch := omega) only [n_lit, n_lt, if_pos, bind_s]
    rw [decide_eq_true hgs, if_neg (by decide)]
  | succ r ih =>
    intro n s M P a fu hp h47 hf hS hP ht hs ho
    obtain ⟨fu, rfl⟩ : ∃ f, fu = f + 1 := ⟨fu - 1, by omega⟩
    have s2 := sts_2048 hw hs
    have hn10 := WR_n hw
    have hgs : ¬ gl g s := fun e => by have := (opt_goal0 hw hs ho).mp e; omega
    obtain ⟨k, M3, f1, f2, f3, f4, f5, f6, f7⟩ := k_frst hS hP ht hgs
    have hk2 := f2.1
    obtain ⟨_, x, y, on, ea, em⟩ := opt_b (x := 0) (y := 0) hw hs f3 ho
    have hu := nx_lt hw hs f2
    have ey : y = r := by omega
    subst ey
    obtain ⟨M', i1, i2⟩ := ih (n + 1) (nx s k) M3 P x fu (fun j h1 h2 => hp j (by omega) (by omega)) (by omega) (by omega) f5 f6 f4 hu on
    refine ⟨M', ?_, fun q j hq hq2 => by rw [i2 q j hq hq2, f7 q j hq hq2]⟩
    rw [pl_step_L11, k_goal hS.2.1.2.2.2.1 hg (by omega)]
    simp (disch := omega) only [n_lit, n_lt, if_pos, bind_s]
    rw [decide_eq_false hgs, if_pos (show bI false = nI 0 from rfl), f1]
    unfold bnd2
    dsimp only
    rw [if_neg (hp n (Nat.le_refl _) (by omega)), if_neg (show ¬ nI k = -nI 1 from nI_nm (by omega)), k_behind s2 (by omega), bind_s, n_add]
    exact i1
theorem m_row {T : Nat} {X Y : Mem} {c : Nat → Nat} (h : SV T X Y c) (hT : T ≤ 520) (p1 p2 p3 : Int32) (hp2 : isB p2 = true) : ∃ v X' Y', rf_row p1 p2 p3 X = some (v, X') ∧ md_row p1 p2 p3 Y = some (v, Y') ∧ LV X' c ∧ Z0 X' ∧ (∀ r i, r < 75 → X' r i = X r i) ∧ (∀ r i, ¬ (r = 0 ∧ (i = 0 ∨ i = 17)) → ¬ r = 6 → ¬ r = 7 → Y' r i = Y r i) := by
  have hLV := SV_LV h hT
  obtain ⟨hR, hB, hw, hb, hY, hz⟩ := id h
  obtain ⟨bm, rfl⟩ := isB_or hp2
  obtain ⟨P, hP, rfl⟩ := n_of p1
  have h10 := pw_10 (WR_n hw)
  have hs0 := s0_sts hb
  have s2 := sts_2048 hw hs0
  have h3 := hb.2.1
  have h4 : c 4 < 2 ^ c 1 := hb.2.2.1
  have l1 : P &&& al c < 2 ^ c 1 := and_lt P (WR_al hw).2.1
  obtain ⟨X1, G, ns, z, bo, f1, f2, f3, f4, f5⟩ := m_find h hT bm P
  have hE0 : EY (wr Y 0 0 (nI 0)) c := EY_fr hY fun i => wr_ne (by omega)
  obtain ⟨Y1, A, B, g1, g2, g3, g4, g5⟩ := r_costs (bm := bm) hE0 hw hb hT l1
  have frY : ∀ r i, ¬ (r = 0 ∧ (i = 0 ∨ i = 17)) → ¬ r = 6 → ¬ r = 7 → Y1 r i = Y r i := fun r i a b d => by rw [g5 r i (by omega) b d, wr_ne (by omega)]
  have hmd : md_row (nI P) (bI bm) p3 Y = if nI (B (2 * c 4 + c 3)) = nI 100000000 then some (-nI 1, Y1) else (md_isIn p3 (nI 0) (nI (B (2 * c 4 + c 3)) - nI 1) Y1).bind (fun v5 => (if v5 = nI 0 then some (-nI 1, Y1) else bnd2 (md_moveFrom (nI (2 * c 4 + c 3)) Y1) fun v7 M6 => md_row_L64 (nI P) (bI bm) p3 (fun v5_11 M13 => some (v5_11, M13)) FU (nI (2 * c 4 + c 3)) (v7) (nI 0) M6)) := by
    unfold md_row
    simp only [n_lit, lt1_ap]
    rw [r_all hE0 hw]
    simp only [bind_s, n_and]
    rw [g1]
    simp only [bind_s]
    unfold md_stateNow
    simp only [n_lit, bind_s]
    rw [EY_n g4 (i := 4) (by omega) (by omega), EY_n g4 (i := 3) (by omega) (by omega), n_mul, n_add]
    simp (disch := omega) only [chk_in, n_cl, (g2 _ hs0).2]
  have hrf : rf_row (nI P) (bI bm) p3 X = if bI (decide (¬ bo = none)) = nI 0 then some (-nI 1, X1) else bnd2 (pl_step p3 X1) fun v4 M3 => some (v4, M3) := by
    unfold rf_row
    rw [f1]
    unfold bnd2
    simp only [n_lit]
  rcases SD_best f2 hs0 with ⟨hbo, hway⟩ | ⟨a, m, hbo, hopt⟩
  · subst hbo
    have hB0 : B (2 * c 4 + c 3) = 100000000 := by
      rcases g3 _ hs0 with q | q
      · exact q.2
      · exact absurd q.2.2.1 (hway _ _)
    exact ⟨-nI 1, X1, Y1, by rw [hrf]; exact if_pos rfl, by rw [hmd, hB0, if_pos rfl], f3, f4, f5, frY⟩
  · subst hbo
    have bd := opt_bd hw hs0 hopt
    have bs := (g3 _ hs0).resolve_left fun q => q.1 _ _ hopt.1
    obtain ⟨eA, eB⟩ := opt_one hw hs0 bs.2.2 hopt
    obtain ⟨X2, Pm, m1, m2, m3, m4⟩ := k_marks (show P &&& al c < 2048 by omega) f2
    have hG0 : G (2 * c 4 + c 3) = 0 := f2.2.2.2.1.2.2.2.2.2.2.2.2.1
    have hTG : TG c (P &&& al c) bm G (kc bm a m) (2 * c 4 + c 3) := ⟨by omega, a, m, hopt, by omega⟩
    have h7 : X2 82 7 = nI (2 * c 4 + c 3) := m2.2.1.2.2.1
    have hpl : ∀ M', pl_step_L11 p3 (fun M7 => some ((-1 : Int32), M7)) FU (nI (2 * c 4 + c 3)) (nI 0) X2 = M' → pl_step p3 X1 = M' := fun M' e => by
      unfold pl_step
      rw [m1, bind_s, h7]
      exact e
    have hnn : ¬ bI (decide (¬ some (kc bm a m) = none)) = nI 0 := by rw [decide_eq_true (p := ¬ some (kc bm a m) = none) (fun e => nomatch e)]; decide
    have hnf : ¬ nI (B (2 * c 4 + c 3)) = nI 100000000 := by rw [n_eq (by omega) (by omega)]; omega
    have fin : ∀ M', (∀ r j, r < 80 → ¬ (r = 75 ∧ j = 10) → M' r j = X2 r j) → LV M' c ∧ Z0 M' ∧ (∀ r i, r < 75 → M' r i = X r i) := fun M' e => by
      have e2 : ∀ r j, r < 80 → ¬ (r = 75 ∧ j = 10) → M' r j = X1 r j := fun r j h1 h2 => by rw [e r j h1 h2, m4 r j h1 h2]
      exact ⟨LV_cong f3 fun r i hr => e2 r i (by omega) (by omega), ⟨by rw [e2 _ _ (by omega) (by omega)]; exact f4.1, by rw [e2 _ _ (by omega) (by omega)]; exact f4.2.1, by rw [e2 _ _ (by omega) (by omega)]; exact f4.2.2⟩, fun r i hr => by rw [e2 r i (by omega) (by omega), f5 r i hr]⟩
    rcases nodec (n := m) p3 with ⟨kk, hkk, rfl⟩ | hno
    · have hgs : ¬ gl (P &&& al c) (2 * c 4 + c 3) := fun e => by have := (opt_goal0 hw hs0 hopt).mp e; omega
      obtain ⟨fm, hfm⟩ := frst_ex hopt hgs
      obtain ⟨Y2, r1, r2, r3, r4⟩ := r_first g4 g2 hw hb hT hs0 hopt hfm g3
      obtain ⟨mv, M', Y', i1, i2, i3, i4⟩ := row_lock (p1 := nI P) (p2 := bI bm) hw hb hT (show P &&& al c < 2048 by omega) g3 (K1 := fun M7 => some ((-1 : Int32), M7)) kk 0 (2 * c 4 + c 3) fm X2 Y2 Pm a m FU FU (Nat.zero_add kk) hkk (by omega) (by rw [FUe]; omega) (by rw [FUe]; omega) m2 m3 hTG hs0 hopt hfm r2 r3
      obtain ⟨q1, q2, q3⟩ := fin M' i3
      refine ⟨nI mv, M', Y', ?_, ?_, q1, q2, q3, fun r i x y w => by rw [i4 r i (by omega), r4 r i (by omega), frY r i x y w]⟩
      · rw [hrf, if_neg hnn, hpl _ i1]
        rfl
      · rw [hmd, if_neg hnf]
        unfold md_isIn
        rw [eB]
        simp (disch := omega) only [n_lit, n_sub, n_lt, if_neg, bind_s]
        rw [if_neg (show ¬ nI 1 = nI 0 by decide), r1]
        exact i2
    · obtain ⟨M', i1, i2⟩ := row_none (p := p3) hw (show P &&& al c < 2048 by omega) (K := fun M7 => some ((-1 : Int32), M7)) m 0 (2 * c 4 + c 3) X2 Pm a FU (fun j _ h2 e => hno j (by omega) e.symm) (by omega) (by rw [FUe]; omega) m2 m3 hTG hs0 hopt
      obtain ⟨q1, q2, q3⟩ := fin M' i2
      refine ⟨-nI 1, M', Y1, ?_, ?_, q1, q2, q3, frY⟩
      · rw [hrf, if_neg hnn, hpl _ i1]
        rfl
      · rw [hmd, if_neg hnf]
        have hin : md_isIn p3 (nI 0) (nI (B (2 * c 4 + c 3)) - nI 1) Y1 = some (nI 0) := by
          unfold md_isIn
          rw [eB]
          rcases pk_ix p3 (n := m) (by omega) with q | q | ⟨j, q, rfl⟩
          · rw [if_pos (show p3 < nI 0 from q)]
            rfl
          · by_cases q2 : p3 < nI 0
            · rw [if_pos q2]
              rfl
            · rw [if_neg q2, if_pos ?_]
              · rfl
              · rw [Int32.le_iff_toInt_le, n_toI (by omega)] at q
                rw [Int32.lt_iff_toInt_lt, pk_sub_toInt (by omega) (by omega)]
                omega
          · exact absurd rfl (hno j q)
        rw [hin, bind_s, if_pos rfl]
