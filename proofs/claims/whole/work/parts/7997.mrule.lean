/-! the rule: the call -/
theorem rread_sim {b : Nat → Nat} {e p : Nat} {X : Mem} (he : e ≤ 400) (hT : TPo X b e p) : TxS X b e p (fun _ => -1) (rd_readText X) (md_read 1) := by
  have hl := KD_le b e p
  have hpe := TPo_le hT
  have hT1 : TPo (wr (wr X 63 0 (nI 0)) 63 4 (nI 0)) b e p := TPo_cong hT fun r i q => by rw [wr_ne (by omega), wr_ne (by omega)]
  have f1 : FrT X (wr (wr X 63 0 (nI 0)) 63 4 (nI 0)) := fun r i q _ => by rw [wr_ne (by omega), wr_ne (by omega)]
  unfold rd_readText
  have hb : ru_begin 63 X = some (wr (wr X 63 0 (nI 0)) 63 4 (nI 0)) := rfl
  rw [hb, bind_s, k_thing hT1, bind_s, show (1 : Int32) = nI 1 from rfl, teq_n (by omega) (by omega)]
  have ref : ∀ Y a, RS Y b e a p 0 → RS (setA Y p) b e p p 0 ∧ md_read (nI 1) Y = if p < e then md_read_L23 1 (fun v3_10 M12 => some (v3_10, M12)) FU 1 (nI 0) (setA Y p) else md_read_L23 1 (fun v3_10 M12 => some (v3_10, M12)) FU 0 (nI 0) (setA Y p) := fun Y a hY => by
    obtain ⟨s1, s2⟩ := RS_skip hY
    refine ⟨s2, ?_⟩
    unfold md_read md_read_J20
    rw [s1, bind_s, setA_9, s2.1.1]
    by_cases q : p < e
    · rw [if_pos (by rw [n_lt (by omega) (by omega)]; exact q), if_pos q]
      rfl
    · rw [if_neg (by rw [n_lt (by omega) (by omega)]; exact q), if_neg q]
      rfl
  by_cases q : KD b e p = 1
  · have hp := KD_1 q
    rw [if_pos (decide_eq_true q)]
    refine Or.inl ⟨_, 0, 0, fun _ => -1, rfl, by omega, by rw [wr_ne (by omega), wr_eq], by omega, RU_0, fun F => Or.inl rfl, f1, fun Y a hY h13 => ?_⟩
    obtain ⟨s2, r2⟩ := ref Y a hY
    refine ⟨setA Y p, ?_, s2.2.1, (wr_ne (by omega) : setA Y p 0 13 = Y 0 13).trans h13, FrR_A⟩
    rw [r2, if_neg (by omega), show FU = 999999 + 1 from rfl, md_read_L23, if_pos rfl]
  · rw [if_neg (by rw [decide_eq_false q]; decide)]
    have hp : p < e := Classical.byContradiction fun h => q (KD_end (by omega))
    have h13' : ∀ Y, Y 0 13 = (fun _ : Nat → Int32 => (-1 : Int32)) (Y 5) → setA Y p 0 13 = (fun _ : Nat → Int32 => (-1 : Int32)) (setA Y p 5) := fun Y h => by
      refine Eq.trans ?_ h
      exact wr_ne (by omega)
    rcases rtext_sim he 12 0 FU FU _ p 0 (fun _ => -1) rfl (by rw [FUe]; omega) (by rw [FUe]; omega) hT1 (by rw [wr_ne (by omega), wr_eq]) wr_eq (by omega) RU_0 (fun F => Or.inl rfl) with ⟨X2, ln, z2, say2, g1, g2, g3, g4, g5, g6, g7, g8⟩ | ⟨X2, q, g1, g2, g3, g4⟩
    · refine Or.inl ⟨X2, ln, z2, say2, g1, g2, g3, g4, g5, g6, FrT_tr f1 g7, fun Y a hY h13 => ?_⟩
      obtain ⟨s2, r2⟩ := ref Y a hY
      obtain ⟨Y2, z1, z2, z3, z4⟩ := g8 _ _ s2 (h13' Y h13)
      rw [setA_5] at z3
      exact ⟨Y2, by rw [r2, if_pos hp]; exact z1, z2, z3, FrR_tr FrR_A z4⟩
    · refine Or.inr ⟨X2, q, g1, g2, FrT_tr f1 g3, fun Y a hY h13 => ?_⟩
      obtain ⟨s2, r2⟩ := ref Y a hY
      obtain ⟨v, Y2, z1, z2, z3, z4⟩ := g4 _ _ s2 (h13' Y h13)
      exact ⟨v, Y2, by rw [r2, if_pos hp]; exact z1, z2, z3, FrR_tr FrR_A z4⟩
/-- the rule of the one and of the other -/
def RuS (l : Int32) (nm en s : Nat → Int32) (lc e : Nat) (b : Nat → Nat) : Prop :=
  (lc = 0 ∧ l = -1) ∨ (∃ ln z say, lc = ln + 1 ∧ ln ≤ 12 ∧ l = nI ln ∧ z ≤ 400 ∧ RU nm en s ln z say ∧ (∀ F, say F = -1 ∨ ∃ u, u ≤ 999 ∧ say F = nI u) ∧ e ≤ 400 ∧ (∀ k, k < e → b k ≤ 255) ∧ ∀ Y, LTx Y b e → Y 0 10 = -1 → Y 0 9 = nI 0 → Y 0 11 = nI 0 → Y 0 13 = -1 → ∃ v Y', md_read 1 Y = some (v, Y') ∧ Y' 0 10 = -1 ∧ Y' 0 13 = say (Y 5) ∧ FrR Y Y')
def RuX (R : Nat) (X : Mem) (c : Nat → Nat) : Prop := RuS (X R 0) (X (R + 1)) (X (R + 2)) (X (R + 3)) (c 8) (c 9) (fun k => c (248 + k))
theorem RuX_l {R : Nat} {X : Mem} {c : Nat → Nat} (h : RuX R X c) : X R 0 = nI (c 8) - nI 1 ∧ c 8 ≤ 13 := by
  rcases h with ⟨h1, h2⟩ | ⟨ln, z, say, h1, h2, h3, _⟩
  · rw [h1, h2]
    exact ⟨rfl, by omega⟩
  · rw [h1, h3, n_sub (by omega)]
    exact ⟨rfl, by omega⟩
theorem RuS_cong {l l' : Int32} {nm en s nm' en' s' : Nat → Int32} {lc e lc' e' : Nat} {b b' : Nat → Nat} (h : RuS l nm en s lc e b) (h1 : l' = l) (h2 : ∀ j, j < 12 → nm' j = nm j ∧ en' j = en j) (h3 : ∀ i, i < 400 → s' i = s i) (h4 : lc' = lc) (h5 : e' = e) (h6 : ∀ k, k < 400 → b' k = b k) : RuS l' nm' en' s' lc' e' b' := by
  subst h1 h4 h5
  rcases h with h | ⟨ln, z, say, g1, g2, g3, g4, g5, g6, g7, g8, g9⟩
  · exact Or.inl h
  · refine Or.inr ⟨ln, z, say, g1, g2, g3, g4, RU_cong g5 (fun j hj => h2 j (by omega)) (fun i hi => h3 i (by omega)), g6, g7, fun k hk => by rw [h6 k (by omega)]; exact g8 k hk, fun Y hL => g9 Y ?_⟩
    obtain ⟨a1, a2, a3, a4⟩ := hL
    refine ⟨a1, a2, g8, ?_⟩
    rcases a4 with ⟨x1, x2⟩ | ⟨x1, x2⟩
    · exact Or.inl ⟨x1, fun k hk => by rw [x2 k hk, h6 k (by omega)]⟩
    · exact Or.inr ⟨x1, fun k hk => by rw [x2 k hk, h6 k (by omega)]⟩
theorem RuX_cong {R R' : Nat} {X X' : Mem} {c c' : Nat → Nat} (h : RuX R X c) (h1 : X' R' 0 = X R 0) (h2 : ∀ j, j < 12 → X' (R' + 1) j = X (R + 1) j ∧ X' (R' + 2) j = X (R + 2) j) (h3 : ∀ i, i < 400 → X' (R' + 3) i = X (R + 3) i) (h4 : RuC c c') : RuX R' X' c' := RuS_cong h h1 h2 h3 (h4 8 (by omega)) (h4 9 (by omega)) (fun k hk => h4 (248 + k) (by omega))
theorem rru_L {K : Mem → Option (Int32 × Mem)} {y1 : Int32} {n : Nat} (hn : n ≤ 400) : ∀ m k fu (M : Mem), k + m = n → m < fu → M 0 8 = nI n → ∃ M', md_rule_L62 y1 K fu (nI k) M = K M' ∧ (∀ i, k ≤ i → i < n → M' 1 (248 + i) = M 4 i) ∧ (∀ r i, ¬ (r = 1 ∧ 248 + k ≤ i ∧ i < 248 + n) → M' r i = M r i)
  | 0, k, 0, M, _, hf, _ => absurd hf (by omega)
  | 0, k, fu + 1, M, hk, _, h8 => by
    refine ⟨M, ?_, fun i a d => by omega, fun _ _ _ => rfl⟩
    rw [md_rule_L62, h8, if_neg (by rw [n_lt (by omega) (by omega)]; omega)]
  | m + 1, k, 0, M, _, hf, _ => absurd hf (by omega)
  | m + 1, k, fu + 1, M, hk, hf, h8 => by
    obtain ⟨M', e1, e2, e3⟩ := rru_L hn (K := K) (y1 := y1) m (k + 1) fu (wr M 1 (248 + k) (M 4 k)) (by omega) (by omega) (by rw [wr_ne (by omega), h8])
    refine ⟨M', ?_, fun i a d => ?_, fun r i q => ?_⟩
    · rw [md_rule_L62, h8, if_pos (by rw [n_lt (by omega) (by omega)]; omega), chk_in (by omega) (by omega), show (248 : Int32) + nI k = nI (248 + k) from n_add _ _, chk_in (by omega) (by omega), n_cl (by omega), n_cl (by omega), lt1_ap, show nI k + 1 = nI (k + 1) from n_add _ _, e1]
    · by_cases q : i = k
      · rw [q, e3 _ _ (by omega), wr_eq]
      · rw [e2 i (by omega) d, wr_ne (by omega)]
    · rw [e3 r i (by omega), wr_ne (by omega)]
theorem ru_copy {R Q : Nat} {X : Mem} (hd : Q + 4 ≤ R ∨ R + 4 ≤ Q) : ∃ X', ru_copyFrom R Q X = some X' ∧ X' R 0 = X Q 0 ∧ (∀ j, j < 12 → X' (R + 1) j = X (Q + 1) j ∧ X' (R + 2) j = X (Q + 2) j) ∧ (∀ i, i < 400 → X' (R + 3) i = X (Q + 3) i) ∧ (∀ r i, ¬ (R ≤ r ∧ r < R + 4) → X' r i = X r i) := by
  have cp : ∀ (M : Mem) a b n r i, ¬ r = b → cpy M a b n r i = M r i := fun M a b n r i q => if_neg fun q2 => q q2.1
  have cq : ∀ (M : Mem) a b n i, i < n → cpy M a b n b i = M a i := fun M a b n i q => if_pos ⟨rfl, q⟩
  refine ⟨_, rfl, ?_, fun j hj => ⟨?_, ?_⟩, fun i hi => ?_, fun r i q => ?_⟩
  · simp (disch := omega) only [lt1_ap, cp, wr_ne, wr_eq]
  · simp (disch := omega) only [lt1_ap, cp, cq, wr_ne, wr_eq]
  · simp (disch := omega) only [lt1_ap, cp, cq, wr_ne, wr_eq]
  · simp (disch := omega) only [lt1_ap, cp, cq, wr_ne, wr_eq]
  · simp (disch := omega) only [lt1_ap, cp, cq, wr_ne, wr_eq]
def keepsB (c c' : Nat → Nat) : Prop := ∀ i, i < 248 → ¬ (i = 8 ∨ i = 9) → c' i = c i
theorem XB_k2 {R : Nat} {X : Mem} {c c' : Nat → Nat} (h : XB R X c) (hk : keepsB c c') : XB R X c' := by
  obtain ⟨g0, g1, g2, g3, g4, g5, g6⟩ := h
  refine ⟨?_, ?_, ?_, ?_, ?_, fun b hb2 => ?_, fun a b ha hb2 => ?_⟩
  · rw [hk _ (by omega) (by omega), g0]
  · rw [hk _ (by omega) (by omega), g1]
  · rw [hk _ (by omega) (by omega), g2]
  · rw [hk _ (by omega) (by omega), g3]
  · rw [hk _ (by omega) (by omega), g4]
  · rw [show td c' b = td c b from hk _ (by omega) (by omega), g5 b hb2]
  · rw [show pu c' a b = pu c a b from hk _ (by omega) (by omega), g6 a b ha hb2]
theorem WB_k2 {T : Nat} {c c' : Nat → Nat} (hk : keepsB c c') (hb : WB T c) : WB T c' := by
  obtain ⟨g0, g1, g2, g3, g4, g5, g6⟩ := hb
  have h1 := hk 1 (by omega) (by omega)
  refine ⟨by rw [hk 2 (by omega) (by omega)]; exact g0, by rw [hk 3 (by omega) (by omega)]; exact g1, by rw [hk 4 (by omega) (by omega), h1]; exact g2, by rw [hk 10 (by omega) (by omega)]; exact g3, by rw [hk 11 (by omega) (by omega)]; exact g4, fun b hb2 => ?_, fun a b ha hb2 => ?_⟩
  · rw [show td c' b = td c b from hk _ (by omega) (by omega), h1]
    exact g5 b hb2
  · rw [show pu c' a b = pu c a b from hk _ (by omega) (by omega), h1]
    exact g6 a b ha hb2
theorem rc_k2 {c c' : Nat → Nat} (hk : keepsB c c') : ∀ i, rc i → c' i = c i := fun i h => by
  unfold rc at h
  exact hk i (by omega) (by omega)
theorem m_rule {T n : Nat} {X Y : Mem} {c b : Nat → Nat} (h : SV T X Y c) (ht : TPE X Y n b) (hru : RuX 58 X c) : ∃ e v X' u Y' c', rf_rule X = some (e, v, X') ∧ md_rule Y = some (u, Y') ∧ ((e = 0 ∧ Y' 0 0 = 0 ∧ v = u) ∨ (¬ e = 0 ∧ e = 1 ∧ Y' 0 0 = 1)) ∧ SV T X' Y' c' ∧ X' 1 1 = nI 0 ∧ Y' 0 6 = nI 0 ∧ X' 0 16 = Y' 0 10 ∧ RuX 58 X' c' ∧ (∀ r i, 68 ≤ r ∨ (6 ≤ r ∧ r < 58) ∨ (r = 0 ∧ ¬ i = 16) → X' r i = X r i) ∧ (∀ r i, r = 2 ∨ (r = 0 ∧ i = 3) → Y' r i = Y r i) := by
  obtain ⟨hR, hB, hw, hb, hE, hz⟩ := id h
  obtain ⟨hn, t1, t2, t3⟩ := ht
  obtain ⟨X2, x4, x5, x6⟩ := k_split (b := b) (show TX X n b from ⟨t1, hn, fun i hi => ⟨(t3 i hi).1, (t3 i hi).2.2⟩⟩)
  obtain ⟨Y4, y4, y5, y6, y7, y8, y9⟩ : ∃ Y4, (md_begins Y).bind (fun M1 => some (wr M1 0 13 (-1 : Int32))) = some Y4 ∧ Y4 0 10 = -1 ∧ Y4 0 7 = -1 ∧ Y4 0 8 = nI n ∧ (Y4 0 6 = nI 0 ∧ Y4 0 9 = nI 0 ∧ Y4 0 11 = nI 0 ∧ Y4 0 13 = -1) ∧ (∀ r i, ¬ (r = 0 ∧ ((6 ≤ i ∧ i ≤ 11) ∨ i = 13)) → Y4 r i = Y r i) := by
    refine ⟨_, rfl, ?_, ?_, ?_, ⟨?_, ?_, ?_, ?_⟩, fun r i q => ?_⟩
    · simp (disch := omega) only [lt1_ap, wr_ne, wr_eq]
    · simp (disch := omega) only [lt1_ap, wr_ne, wr_eq]
    · simp (disch := omega) only [lt1_ap, wr_ne, wr_eq]
      rw [t2]
    · simp (disch := omega) only [lt1_ap, wr_ne, wr_eq, n_lit]
    · simp (disch := omega) only [lt1_ap, wr_ne, wr_eq, n_lit]
    · simp (disch := omega) only [lt1_ap, wr_ne, wr_eq, n_lit]
    · simp (disch := omega) only [lt1_ap, wr_ne, wr_eq]
    · simp (disch := omega) only [lt1_ap, wr_ne]
  have hL : LTx Y4 b n := ⟨y7, hn, fun k hk => (t3 k hk).2.2, Or.inl ⟨y6, fun k hk => by rw [y9 _ _ (by omega), (t3 k hk).2.1]⟩⟩
  have hS : RS Y4 b n 0 (skp b n 0) 0 := ⟨hL, y5, y8.2.1, Nat.zero_le _, rfl, y8.2.2.1⟩
  have ref : md_rule Y = bnd2 (md_read ((1 : Int32)) Y4) fun v4 M3 => (if (M3 0 10) = (-1 : Int32) then md_rule_J29 (v4) ((0 : Int32)) M3 else md_rule_J29 (v4) ((1 : Int32)) M3) := by
    unfold md_rule
    cases hbg : md_begins Y with
    | none => rw [hbg] at y4; exact absurd y4 (by simp)
    | some M1 =>
      rw [hbg, bind_s] at y4
      rw [bind_s, lt1_ap, Option.some.inj y4]
  have hX2 : ∀ r i, 6 ≤ r ∨ r = 0 → X2 r i = X r i := fun r i q => x6 r i (by omega) (by omega)
  have keep : ∀ {X3 : Mem} (v : Int32), FrT X2 X3 → (∀ r i, 68 ≤ r ∨ (6 ≤ r ∧ r < 63) ∨ (r = 0 ∧ ¬ i = 16) → (wr (wr X3 0 16 v) 1 1 0) r i = X r i) := fun {X3} v f r i q => by
    rw [wr_ne (by omega), wr_ne (by omega), f r i (by omega) (by omega), hX2 r i (by omega)]
  unfold rf_rule
  rw [x4, bind_s, ref]
  rcases rread_sim hn x5 with ⟨X3, ln, z', say', g1, g2, g3, g4, g5, g6, g7, g8⟩ | ⟨X3, q, g1, g2, g3, g4⟩
  · have k := keep (-1) g7
    obtain ⟨Y5, f1, f2, f3, f4⟩ := g8 _ _ hS y8.2.2.2
    obtain ⟨X6, w1, w2, w3, w4, w5⟩ := ru_copy (R := 58) (Q := 63) (X := wr (wr X3 0 16 (-1)) 1 1 0) (by omega)
    have e8 : Y5 0 8 = nI n := by rw [f4 _ _ (by omega), y7]
    have eY : ∀ r i, ¬ (r = 0 ∧ ((6 ≤ i ∧ i ≤ 11) ∨ i = 13)) → Y5 r i = Y r i := fun r i q => by rw [f4 _ _ (by omega), y9 _ _ q]
    obtain ⟨Y6, z1, z2, z3⟩ := rru_L hn (y1 := nI ln) (K := fun M10 => some (nI ln, M10)) n 0 FU (wr (wr (wr Y5 0 0 0) 1 8 (nI ln)) 1 9 (nI n)) (by omega) (by rw [FUe]; omega) (by rw [wr_ne (by omega), wr_ne (by omega), wr_ne (by omega), e8])
    rw [g1, bnd_s, f1, bnd_s, f2, if_pos rfl]
    unfold rf_endReading
    rw [if_neg (show ¬ (1 : Int32) = 0 by decide), lt1_ap, lt1_ap, bind_s, if_neg (show ¬ (1 : Int32) = 0 by decide), w1, bind_s]
    have ej : md_rule_J29 (nI ln) 0 Y5 = some (nI ln, Y6) := by
      unfold md_rule_J29
      rw [lt1_ap, wr_eq, if_neg (by decide), lt1_ap, wr_ne (by omega), wr_ne (by omega), e8, lt1_ap]
      exact z1
    have el : X6 58 0 = nI ln := by rw [w2, wr_ne (by omega), wr_ne (by omega), g3]
    have hc : ∀ i, i < 248 → ¬ (i = 8 ∨ i = 9) → (fun i => if i = 8 then ln + 1 else if i = 9 then n else if 248 ≤ i ∧ i < 248 + n then b (i - 248) else c i) i = c i := fun i h1 h2 => by
      show (if i = 8 then ln + 1 else if i = 9 then n else if 248 ≤ i ∧ i < 248 + n then b (i - 248) else c i) = c i
      rw [if_neg (by omega), if_neg (by omega), if_neg (by omega)]
    have hkX : ∀ r i, 68 ≤ r ∨ (6 ≤ r ∧ r < 58) ∨ (r = 0 ∧ ¬ i = 16) → X6 r i = X r i := fun r i q => by rw [w5 _ _ (by omega), k r i (by omega)]
    refine ⟨0, nI ln, X6, nI ln, Y6, fun i => if i = 8 then ln + 1 else if i = 9 then n else if 248 ≤ i ∧ i < 248 + n then b (i - 248) else c i, by rw [el], ej, Or.inl ⟨rfl, by rw [z3 _ _ (by omega), wr_ne (by omega), wr_ne (by omega), wr_eq], rfl⟩, ⟨XR_c (XR_cong hR fun r i a d => hkX r i (by omega)) hw (rc_k2 hc), XB_k2 (XB_cong hB fun r i a d => hkX r i (by omega)) hc, WR_c hw (rc_k2 hc), WB_k2 hc hb, fun i hi => ?_, ⟨by rw [hkX _ _ (by omega)]; exact hz.1, by rw [hkX _ _ (by omega)]; exact hz.2.1, by rw [hkX _ _ (by omega)]; exact hz.2.2⟩⟩, by rw [w5 _ _ (by omega), wr_eq]; rfl, by rw [z3 _ _ (by omega), wr_ne (by omega), wr_ne (by omega), wr_ne (by omega), f4 _ _ (by omega), y8.1], by rw [w5 _ _ (by omega), wr_ne (by omega), wr_eq, z3 _ _ (by omega), wr_ne (by omega), wr_ne (by omega), wr_ne (by omega), f2], ?_, hkX, fun r i q => by rw [z3 _ _ (by omega), wr_ne (by omega), wr_ne (by omega), wr_ne (by omega), eY _ _ (by omega)]⟩
    · unfold cI
      dsimp only
      by_cases q1 : i = 8
      · subst q1
        rw [if_pos (by omega), if_pos rfl, z3 _ _ (by omega), wr_ne (by omega), wr_eq, n_sub (by omega)]
        rfl
      · by_cases q2 : i = 9
        · subst q2
          rw [if_neg (by omega), if_neg (by omega), if_pos rfl, z3 _ _ (by omega), wr_eq]
        · rw [if_neg q1, if_neg q2]
          by_cases q3 : 248 ≤ i ∧ i < 248 + n
          · rw [if_pos q3, if_neg (by omega)]
            obtain ⟨j, rfl⟩ : ∃ j, i = 248 + j := ⟨i - 248, by omega⟩
            rw [z2 j (by omega) (by omega), wr_ne (by omega), wr_ne (by omega), wr_ne (by omega), eY _ _ (by omega), (t3 j (by omega)).2.1, show 248 + j - 248 = j by omega]
          · rw [if_neg q3, z3 _ _ (by omega), wr_ne (by omega), wr_ne (by omega), wr_ne (by omega), eY _ _ (by omega)]
            exact hE i hi
    · refine Or.inr ⟨ln, z', say', if_pos rfl, g2, el, g4, RU_cong g5 (fun j hj => ?_) (fun i hi => ?_), g6, ?_, ?_, ?_⟩
      · rw [(w3 j (by omega)).1, (w3 j (by omega)).2, wr_ne (by omega), wr_ne (by omega), wr_ne (by omega), wr_ne (by omega)]
        exact ⟨rfl, rfl⟩
      · rw [w4 i (by omega), wr_ne (by omega), wr_ne (by omega)]
      · show (if (9 : Nat) = 8 then ln + 1 else if (9 : Nat) = 9 then n else _) ≤ 400
        rw [if_neg (by omega), if_pos rfl]
        exact hn
      · dsimp only
        rw [if_neg (show ¬ (9 : Nat) = 8 by omega), if_pos rfl]
        intro k hk
        rw [if_neg (by omega), if_neg (by omega), if_pos (by omega), show 248 + k - 248 = k by omega]
        exact (t3 k hk).2.2
      · dsimp only
        rw [if_neg (show ¬ (9 : Nat) = 8 by omega), if_pos rfl]
        intro Y7 hL7 o1 o2 o3 o4
        have hL8 : LTx Y7 b n := by
          obtain ⟨a1, a2, a3, a4⟩ := hL7
          have eb : ∀ k, k < n → (if 248 + k = 8 then ln + 1 else if 248 + k = 9 then n else if 248 ≤ 248 + k ∧ 248 + k < 248 + n then b (248 + k - 248) else c (248 + k)) = b k := fun k hk => by
            rw [if_neg (by omega), if_neg (by omega), if_pos (by omega), show 248 + k - 248 = k by omega]
          refine ⟨a1, a2, fun k hk => (t3 k hk).2.2, ?_⟩
          rcases a4 with ⟨x1, x2⟩ | ⟨x1, x2⟩
          · exact Or.inl ⟨x1, fun k hk => (x2 k hk).trans (congrArg nI (eb k hk))⟩
          · exact Or.inr ⟨x1, fun k hk => (x2 k hk).trans (congrArg nI (eb k hk))⟩
        obtain ⟨Y8, v1, v2, v3, v4⟩ := g8 Y7 0 ⟨hL8, o1, o2, Nat.zero_le _, rfl, o3⟩ o4
        exact ⟨_, Y8, v1, v2, v3, v4⟩
  · have k := keep (nI q) g3
    obtain ⟨v, Y5, f1, f2, f3, f4⟩ := g4 _ _ hS y8.2.2.2
    have eY : ∀ r i, ¬ (r = 0 ∧ ((6 ≤ i ∧ i ≤ 11) ∨ i = 13)) → Y5 r i = Y r i := fun r i q => by rw [f4 _ _ (by omega), y9 _ _ q]
    rw [g1, bnd_s, f1, bnd_s, if_neg f3]
    unfold rf_endReading
    rw [if_pos rfl, k_start g2, bind_s, lt1_ap, lt1_ap, bind_s, if_pos rfl]
    have ej : md_rule_J29 v 1 Y5 = some (0, wr Y5 0 0 1) := by
      unfold md_rule_J29
      rw [lt1_ap, wr_eq, if_pos (by decide)]
    refine ⟨1, 0, _, 0, _, c, rfl, ej, Or.inr ⟨by decide, rfl, wr_eq⟩, ⟨XR_cong hR fun r i a d => k r i (by omega), XB_cong hB fun r i a d => k r i (by omega), hw, hb, EY_fr hE fun i => by rw [wr_ne (by omega), eY _ _ (by omega)], ⟨by rw [k _ _ (by omega)]; exact hz.1, by rw [k _ _ (by omega)]; exact hz.2.1, by rw [k _ _ (by omega)]; exact hz.2.2⟩⟩, wr_eq, by rw [wr_ne (by omega), f4 _ _ (by omega), y8.1], by rw [wr_ne (by omega), wr_eq, wr_ne (by omega), f2], ?_, fun r i q => k r i (by omega), fun r i q => by rw [wr_ne (by omega), eY _ _ (by omega)]⟩
    exact RuX_cong hru (k _ _ (by omega)) (fun j _ => ⟨k _ _ (by omega), k _ _ (by omega)⟩) (fun i _ => k _ _ (by omega)) (fun _ _ => rfl)
/-- the number of one who waits -/
theorem num_of {X Y : Mem} {c : Nat → Nat} {k : Nat} {p1 p2 p3 w1 w2 : Int32} (hE : EY Y c) (hru : RuX 58 X c) (hk : k < 41) (h1 : w1 = p3 - Y 14 k) (h2 : w2 = Y 13 k) (h3 : X 58 8 = p2) (h4 : X 58 9 = p3) (hp : p1 = nI k) : ∃ u X' Y', u ≤ 999 ∧ ru_numberOf 58 w1 w2 X = some (nI u, X') ∧ md_numberOf p1 p2 p3 Y = some (nI u, Y') ∧ (∀ r i, ¬ (r = 62 ∨ (r = 58 ∧ (i = 6 ∨ i = 7))) → X' r i = X r i) ∧ (∀ r i, ¬ (r = 5 ∨ (r = 0 ∧ (i = 7 ∨ i = 8 ∨ i = 9 ∨ i = 11 ∨ i = 13))) → Y' r i = Y r i) := by
  subst hp
  have e8 := EY_d hE (i := 8) (by omega)
  rcases hru with ⟨g1, g2⟩ | ⟨ln, z, say, g1, g2, g3, g4, g5, g6, g7, g8, g9⟩
  · refine ⟨0, wr (wr X 58 6 w1) 58 7 w2, Y, by omega, ?_, ?_, fun r i q => ?_, fun _ _ _ => rfl⟩
    · unfold ru_numberOf
      rw [lt1_ap, lt1_ap, show FU = 999999 + 1 from rfl, ru_numberOf_L15, wr_ne (by omega), wr_ne (by omega), g2, if_neg (by decide)]
      rfl
    · unfold md_numberOf
      rw [e8, g1, if_pos (by decide)]
      rfl
    · rw [wr_ne (by omega), wr_ne (by omega)]
  · have hl : Y 1 8 = nI ln := by
      rw [e8, g1, n_sub (by omega)]
      rfl
    have e9 : Y 1 9 = nI (c 9) := EY_n hE (by omega) (by omega)
    -- the reference's memory at the reading
    obtain ⟨Y1, d1, d2⟩ : ∃ Y1, Y1 = (wr (wr (wr (wr (wr (wr (wr (wr (wr (wr Y 5 0 w1) 5 1 w2) 5 2 p2) 5 3 p3) 0 10 (-1)) 0 7 (nI 248)) 0 8 (nI (c 9))) 0 9 (nI 0)) 0 11 (nI 0)) 0 13 (-1)) ∧ ∀ r i, ¬ (r = 5 ∨ (r = 0 ∧ (i = 7 ∨ i = 8 ∨ i = 9 ∨ i = 10 ∨ i = 11 ∨ i = 13))) → Y1 r i = Y r i := ⟨_, rfl, fun r i q => by simp (disch := omega) only [wr_ne]⟩
    have hF : Y1 5 0 = w1 ∧ Y1 5 1 = w2 ∧ Y1 5 2 = p2 ∧ Y1 5 3 = p3 := by
      subst d1
      refine ⟨?_, ?_, ?_, ?_⟩ <;> simp (disch := omega) only [wr_ne, wr_eq]
    have hz : Y1 0 10 = -1 ∧ Y1 0 7 = nI 248 ∧ Y1 0 8 = nI (c 9) ∧ Y1 0 9 = nI 0 ∧ Y1 0 11 = nI 0 ∧ Y1 0 13 = -1 := by
      subst d1
      refine ⟨?_, ?_, ?_, ?_, ?_, ?_⟩ <;> simp (disch := omega) only [wr_ne, wr_eq]
    have hL : LTx Y1 (fun k => c (248 + k)) (c 9) := ⟨hz.2.2.1, g7, g8, Or.inr ⟨hz.2.1, fun j hj => by rw [d2 _ _ (by omega)]; exact EY_n hE (by omega) (by omega)⟩⟩
    obtain ⟨v, Y2, f1, f2, f3, f4⟩ := g9 Y1 hL hz.1 hz.2.2.2.1 hz.2.2.2.2.1 hz.2.2.2.2.2
    have ref : md_numberOf (nI k) p2 p3 Y = (if say (Y1 5) = -1 then some (0, wr Y2 0 10 (Y 0 10)) else some (say (Y1 5), wr Y2 0 10 (Y 0 10))) := by
      unfold md_numberOf
      rw [hl, if_neg (nI_nm (by omega)), chk_in hk (by omega), n_cl (by omega), lt1_ap, chk_in hk (by omega), lt1_ap, lt1_ap, lt1_ap, lt1_ap, lt1_ap, lt1_ap, lt1_ap, lt1_ap, lt1_ap]
      have ev : (wr (wr (wr (wr (wr (wr (wr (wr (wr (wr Y 5 0 (p3 - Y 14 k)) 5 1 (wr Y 5 0 (p3 - Y 14 k) 13 k)) 5 2 p2) 5 3 p3) 0 10 (-1)) 0 7 248) 0 8 (wr (wr (wr (wr (wr (wr Y 5 0 (p3 - Y 14 k)) 5 1 (wr Y 5 0 (p3 - Y 14 k) 13 k)) 5 2 p2) 5 3 p3) 0 10 (-1)) 0 7 248 1 9)) 0 9 0) 0 11 0) 0 13 (-1)) = Y1 := by
        rw [d1, ← h1, wr_ne (r := 5) (r' := 13) (by omega), ← h2, wr_ne (r' := 1) (by omega), wr_ne (r' := 1) (by omega), wr_ne (r' := 1) (by omega), wr_ne (r' := 1) (by omega), wr_ne (r' := 1) (by omega), wr_ne (r' := 1) (by omega), e9]
        rfl
      rw [ev, f1, bnd_s, lt1_ap, wr_ne (by omega), f3]
      have e10 : (wr (wr (wr (wr Y 5 0 (p3 - Y 14 k)) 5 1 (wr Y 5 0 (p3 - Y 14 k) 13 k)) 5 2 p2) 5 3 p3) 0 10 = Y 0 10 := by
        rw [wr_ne (by omega), wr_ne (by omega), wr_ne (by omega), wr_ne (by omega)]
      rw [e10]
    have hHF : HF (wr (wr X 58 6 w1) 58 7 w2) (Y1 5) := ⟨by rw [hF.1, wr_ne (by omega), wr_eq], by rw [hF.2.1, wr_eq], by rw [hF.2.2.1, wr_ne (by omega), wr_ne (by omega), h3], by rw [hF.2.2.2, wr_ne (by omega), wr_ne (by omega), h4]⟩
    obtain ⟨q1, q2⟩ := g5 (Y1 5) (wr (wr X 58 6 w1) 58 7 w2) (FU - ln) ln w1 w2 (fun M6 => some ((0 : Int32), M6)) (by rw [wr_ne (by omega), wr_ne (by omega), g3]) (Nat.le_refl _) g2 (fun j hj => ⟨by rw [wr_ne (by omega), wr_ne (by omega)], by rw [wr_ne (by omega), wr_ne (by omega)]⟩) (fun i hi => by rw [wr_ne (by omega), wr_ne (by omega)]) hHF
    have e4 : FU - ln + ln = FU := by rw [FUe]; omega
    have e5 : FU - ln = (FU - ln - 1) + 1 := by rw [FUe]; omega
    rw [e4] at q1 q2
    have frY : ∀ r i, ¬ (r = 5 ∨ (r = 0 ∧ (i = 7 ∨ i = 8 ∨ i = 9 ∨ i = 11 ∨ i = 13))) → wr Y2 0 10 (Y 0 10) r i = Y r i := fun r i q => by
      by_cases q3 : r = 0 ∧ i = 10
      · obtain ⟨rfl, rfl⟩ := q3
        rw [wr_eq]
      · rw [wr_ne q3, f4 _ _ (by omega), d2 _ _ (by omega)]
    by_cases hs : say (Y1 5) = -1
    · obtain ⟨M1, m1, m2⟩ := q1 hs
      refine ⟨0, M1, _, by omega, ?_, ?_, fun r i q => by rw [m2 _ _ (by omega), wr_ne (by omega), wr_ne (by omega)], frY⟩
      · unfold ru_numberOf
        rw [lt1_ap, lt1_ap]
        refine Eq.trans m1 ?_
        rw [e5, ru_numberOf_L15, m2 _ _ (by omega), wr_ne (by omega), wr_ne (by omega), g3, if_neg (by rw [n_lt (by omega) (by omega)]; omega)]
        rfl
      · rw [ref, if_pos hs]
        rfl
    · obtain ⟨M1, m1, m2⟩ := q2 hs
      rcases g6 (Y1 5) with hs2 | ⟨u, hu, hs2⟩
      · exact absurd hs2 hs
      refine ⟨u, M1, _, hu, ?_, ?_, fun r i q => by rw [m2 _ _ (by omega), wr_ne (by omega), wr_ne (by omega)], frY⟩
      · unfold ru_numberOf
        rw [lt1_ap, lt1_ap, ← hs2]
        exact m1
      · rw [ref, if_neg hs, hs2]
