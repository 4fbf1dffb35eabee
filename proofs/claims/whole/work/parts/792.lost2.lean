/-! lost orders: the reference -/
def LR (M : Mem) (N : Nat) (L : Nat → Nat) : Prop := M 0 21 = nI N ∧ ∀ i, i < N → M 9 i = nI (L i) ∧ L i < 1024
theorem LR_cong {M M' : Mem} {N : Nat} {L : Nat → Nat} (h : LR M N L) (e : ∀ r i, ((r = 0 ∧ i = 21) ∨ r = 9) → M' r i = M r i) : LR M' N L := ⟨by rw [e _ _ (by omega), h.1], fun i hi => by rw [e _ _ (by omega)]; exact h.2 i hi⟩
theorem sumf_mono {f : Nat → Nat} {m : Nat} : ∀ {n : Nat}, m ≤ n → sumf f m ≤ sumf f n
  | 0, h => by rw [show m = 0 by omega]; exact Nat.le_refl _
  | n + 1, h => by
    by_cases e : m = n + 1
    · rw [e]; exact Nat.le_refl _
    · have := sumf_mono (f := f) (m := m) (n := n) (by omega)
      show sumf f m ≤ sumf f n + f n
      omega
/-- what the telling of d more does -/
def TO (c L : Nat → Nat) (N d at0 u s ord : Nat) (M M' : Mem) : Prop := EY M' c ∧ LR M' N L ∧ M' 0 22 = nI (ord + hm c L N d s u) ∧ (∀ j, j < at0 → M' 10 j = M 10 j) ∧ (0 < ord ∨ hm c L N d s u = 0 → ∀ j, M' 11 j = M 11 j) ∧ (ord = 0 → 0 < hm c L N d s u → (∀ j, j < at0 → M' 11 j = M 10 j) ∧ ∀ j, j < d → M' 11 (at0 + j) = nI (fs c L N d s u j)) ∧ (∀ r i, ¬ (r = 0 ∧ (i = 17 ∨ i = 22)) → ¬ r = 10 → ¬ r = 11 → M' r i = M r i)
theorem rcp_L {at0 : Nat} (h6 : at0 ≤ 6) {self : Int32 → Int32 → Int32 → Mem → Option Mem} {p2 p3 : Int32} {K : Mem → Option Mem} : ∀ m k fu (M : Mem), k + m = at0 → m < fu → ∃ M', md_tellsOrders_L29 self (nI at0) p2 p3 K fu (nI k) M = K M' ∧ (∀ j, k ≤ j → j < at0 → M' 11 j = M 10 j) ∧ (∀ r i, ¬ (r = 11 ∧ k ≤ i) → M' r i = M r i)
  | 0, k, 0, M, _, hf => absurd hf (by omega)
  | 0, k, fu + 1, M, hk, _ => by
    refine ⟨M, ?_, fun u h1 h2 => absurd h2 (by omega), fun _ _ _ => rfl⟩
    rw [md_tellsOrders_L29]
    simp (disch := omega) only [n_lit, n_lt, if_neg]
  | m + 1, k, 0, M, _, hf => absurd hf (by omega)
  | m + 1, k, fu + 1, M, hk, hf => by
    obtain ⟨M', e1, e2, e3⟩ := rcp_L h6 (self := self) (p2 := p2) (p3 := p3) (K := K) m (k + 1) fu (wr M 11 k (M 10 k)) (by omega) (by omega)
    refine ⟨M', ?_, fun u h1 h2 => ?_, fun r i hr => by rw [e3 r i (by omega), wr_ne (by omega)]⟩
    · rw [md_tellsOrders_L29, ← e1]
      simp (disch := omega) only [n_lit, n_lt, if_pos, chk_in, n_cl, lt1_ap, n_add]
    · by_cases e : u = k
      · subst e
        rw [e3 _ _ (by omega), wr_eq]
      · rw [e2 u (by omega) h2, wr_ne (by omega)]
def TOL (c L : Nat → Nat) (N d at0 u s ord k fi : Nat) (M : Mem) (A : Option Mem) (K : Mem → Option Mem) : Prop := ∃ M', A = K M' ∧ EY M' c ∧ LR M' N L ∧ M' 0 22 = nI (ord + hm c L N (d + 1) s u) ∧ (∀ j, j < at0 → M' 10 j = M 10 j) ∧ (0 < ord + sumf (fun i => if cf c L s u i = true then hm c L N d (nx s (L i)) (u ||| 2 ^ i) else 0) k ∨ (∀ i, k ≤ i → i < N → gd c L N d s u i = false) → ∀ j, M' 11 j = M 11 j) ∧ (ord + sumf (fun i => if cf c L s u i = true then hm c L N d (nx s (L i)) (u ||| 2 ^ i) else 0) k = 0 → fi < N → (∀ j, j < at0 → M' 11 j = M 10 j) ∧ M' 11 at0 = nI fi ∧ ∀ j, j < d → M' 11 (at0 + 1 + j) = nI (fs c L N d (nx s (L fi)) (u ||| 2 ^ fi) j)) ∧ (∀ r i, ¬ (r = 0 ∧ (i = 17 ∨ i = 22)) → ¬ r = 10 → ¬ r = 11 → M' r i = M r i)
theorem rto_L {c L : Nat → Nat} {T N d at0 u s ord : Nat} {self : Int32 → Int32 → Int32 → Mem → Option Mem} (hw : WR c) (hb : WB T c) (hT : T ≤ 520) (hN : N ≤ 6) (hs : sts c s) (hu : us N (d + 1) u) (ha : at0 + (d + 1) = N) (hself : ∀ u' s' ord' (M : Mem), us N d u' → sts c s' → EY M c → LR M N L → M 0 22 = nI ord' → ord' + hm c L N d s' u' ≤ 1000000 → ∃ M', self (nI (at0 + 1)) (nI u') (nI s') M = some M' ∧ TO c L N d (at0 + 1) u' s' ord' M M') (hord : ord + hm c L N (d + 1) s u ≤ 1000000) {K : Mem → Option Mem} : ∀ m k fu (M : Mem), k + m = N → m < fu → EY M c → LR M N L → M 0 22 = nI (ord + sumf (fun i => if cf c L s u i = true then hm c L N d (nx s (L i)) (u ||| 2 ^ i) else 0) k) → TOL c L N d at0 u s ord k (ff (gd c L N d s u) k m) M (md_tellsOrders_L59 self (nI at0) (nI u) (nI s) K fu (nI k) M) K
  | 0, k, 0, M, _, hf => absurd hf (by omega)
  | 0, k, fu + 1, M, hk, _ => fun hE hL ho => by
    have e : k = N := by omega
    subst e
    refine ⟨M, ?_, hE, hL, ho, fun _ _ => rfl, fun _ _ => rfl, fun _ h => absurd h (show ¬ k < k by omega), fun _ _ _ _ _ => rfl⟩
    rw [md_tellsOrders_L59, hL.1]
    simp (disch := omega) only [n_lit, n_lt, if_neg]
  | m + 1, k, 0, M, _, hf => absurd hf (by omega)
  | m + 1, k, fu + 1, M, hk, hf => fun hE hL ho => by
    have hn := WR_n hw
    have ih := rto_L hw hb hT hN hs hu ha hself hord (K := K) m (k + 1) fu
    obtain ⟨l1, l2⟩ := hL.2 k (by omega)
    have es : sumf (fun i => if cf c L s u i = true then hm c L N d (nx s (L i)) (u ||| 2 ^ i) else 0) (k + 1) = sumf (fun i => if cf c L s u i = true then hm c L N d (nx s (L i)) (u ||| 2 ^ i) else 0) k + (if cf c L s u k = true then hm c L N d (nx s (L k)) (u ||| 2 ^ k) else 0) := rfl
    have ef : ff (gd c L N d s u) k (m + 1) = if gd c L N d s u k = true then k else ff (gd c L N d s u) (k + 1) m := rfl
    have emono : sumf (fun i => if cf c L s u i = true then hm c L N d (nx s (L i)) (u ||| 2 ^ i) else 0) (k + 1) ≤ hm c L N (d + 1) s u := sumf_mono (show k + 1 ≤ N by omega)
    have stp : md_tellsOrders_L59 self (nI at0) (nI u) (nI s) K (fu + 1) (nI k) M = if bI (u.testBit k) = nI 0 then (if nI (sd (L k) (al c)) = nI 0 then (bnd2 (md_behind (nI s) (nI (L k)) M) fun v4 M3 => md_tellsOrders_J113 self (nI at0) (nI u) (nI s) (fun a4 aM => md_tellsOrders_L59 self (nI at0) (nI u) (nI s) K fu a4 aM) K (nI k) (v4) M3) else md_tellsOrders_J113 self (nI at0) (nI u) (nI s) (fun a4 aM => md_tellsOrders_L59 self (nI at0) (nI u) (nI s) K fu a4 aM) K (nI k) (-1) M) else md_tellsOrders_L59 self (nI at0) (nI u) (nI s) K fu (nI (k + 1)) M := by
      rw [md_tellsOrders_L59, hL.1, r_isOf (by omega), r_all hE hw]
      simp (disch := omega) only [n_lit, n_lt, if_pos, bind_s, chk_in, n_cl, l1, n_sd, n_add]
    have skip : cf c L s u k = false → ∀ M2, (∀ r i, ¬ (r = 0 ∧ i = 17) → M2 r i = M r i) → md_tellsOrders_L59 self (nI at0) (nI u) (nI s) K (fu + 1) (nI k) M = md_tellsOrders_L59 self (nI at0) (nI u) (nI s) K fu (nI (k + 1)) M2 → TOL c L N d at0 u s ord k (ff (gd c L N d s u) k (m + 1)) M (md_tellsOrders_L59 self (nI at0) (nI u) (nI s) K (fu + 1) (nI k) M) K := fun hc M2 h2 hgo => by
      have hg : gd c L N d s u k = false := by
        unfold gd
        rw [hc]
        rfl
      rw [hc, if_neg Bool.false_ne_true, Nat.add_zero] at es
      obtain ⟨M', i1, i2, i3, i4, i5, i6, i7, i8⟩ := ih M2 (by omega) (by omega) (EY_fr hE fun i => h2 1 i (by omega)) (LR_cong hL fun r i hr => h2 r i (by omega)) (by rw [h2 _ _ (by omega), es]; exact ho)
      rw [es] at i6 i7
      rw [ef, hg, if_neg Bool.false_ne_true]
      exact ⟨M', by rw [hgo]; exact i1, i2, i3, i4, fun j hj => by rw [i5 j hj, h2 _ _ (by omega)], fun h j => by
        rw [i6 (by
          rcases h with h | h
          · exact Or.inl h
          · exact Or.inr fun i h3 h4 => h i (by omega) h4) j, h2 _ _ (by omega)], fun h0 h1 => by
        obtain ⟨a, b⟩ := i7 h0 h1
        exact ⟨fun j hj => by rw [a j hj, h2 _ _ (by omega)], b⟩, fun r i a b e => by rw [i8 r i a b e, h2 r i (by omega)]⟩
    by_cases qu : u.testBit k = true
    · refine skip (by unfold cf; rw [qu]; rfl) M (fun _ _ _ => rfl) ?_
      rw [stp, qu, if_neg (by decide)]
    · have qu : u.testBit k = false := Bool.eq_false_iff.mpr qu
      rw [qu, if_pos (show bI false = nI 0 from rfl)] at stp
      by_cases qa : sd (L k) (al c) = 0
      · rw [qa, if_pos rfl] at stp
        have lt := sub_lt qa (WR_al hw).2.1
        rw [r_behind hE hw hb hT hs (by omega)] at stp
        have fr2 : ∀ r i, ¬ (r = 0 ∧ i = 17) → rY M (tk c s (L k)) r i = M r i := fun r i hr => by
          unfold rY
          split
          · rfl
          · exact wr_ne hr
        unfold bnd2 nxI at stp
        dsimp only at stp
        unfold md_tellsOrders_J113 at stp
        by_cases qt : tk c s (L k) = 0
        · rw [if_pos qt, if_pos rfl] at stp
          refine skip (by unfold cf; rw [qt]; simp) _ fr2 ?_
          rw [stp, n_lit, n_add]
        · have hc : cf c L s u k = true := by unfold cf; rw [qu, decide_eq_true qt]; rfl
          rw [hc, if_pos rfl] at es
          have hv : vl c s (L k) := ⟨by omega, qt⟩
          have hu2 := nx_lt hw hs hv
          have u2 := sts_2048 hw hu2
          rw [if_neg qt, if_neg (nI_nm (by omega))] at stp
          simp (disch := omega) only [n_lit, chk_in, n_cl, lt1_ap, n_m31, n_shl1, n_or, n_add] at stp
          have hE5 : EY (wr (rY M (tk c s (L k))) 10 at0 (nI k)) c := EY_fr hE fun i => by rw [wr_ne (by omega), fr2 _ _ (by omega)]
          have hL5 : LR (wr (rY M (tk c s (L k))) 10 at0 (nI k)) N L := LR_cong hL fun r i hr => by rw [wr_ne (by omega), fr2 _ _ (by omega)]
          obtain ⟨M6, s1, t1, t2, t3, t4, t5, t6, t7⟩ := hself (u ||| 2 ^ k) (nx s (L k)) (ord + sumf (fun i => if cf c L s u i = true then hm c L N d (nx s (L i)) (u ||| 2 ^ i) else 0) k) _ (us_next hu (by omega) qu) hu2 hE5 hL5 (by rw [wr_ne (by omega), fr2 _ _ (by omega)]; exact ho) (by omega)
          rw [s1, bind_s] at stp
          obtain ⟨M', i1, i2, i3, i4, i5, i6, i7, i8⟩ := ih M6 (by omega) (by omega) t1 t2 (by rw [es, t3, Nat.add_assoc])
          refine ⟨M', by rw [stp]; exact i1, i2, i3, i4, fun j hj => by rw [i5 j hj, t4 j (by omega), wr_ne (by omega), fr2 _ _ (by omega)], fun h j => ?_, fun h0 h1 => ?_, fun r i a b e => by rw [i8 r i a b e, t7 r i a b e, wr_ne (by omega), fr2 r i (by omega)]⟩
          · have hh : 0 < ord + sumf (fun i => if cf c L s u i = true then hm c L N d (nx s (L i)) (u ||| 2 ^ i) else 0) k ∨ hm c L N d (nx s (L k)) (u ||| 2 ^ k) = 0 := by
              rcases h with h | h
              · exact Or.inl h
              · have := h k (Nat.le_refl _) (by omega)
                unfold gd at this
                rw [hc, Bool.true_and, decide_eq_false_iff_not] at this
                exact Or.inr (by omega)
            rw [i6 (by
              rcases h with h | h
              · exact Or.inl (by omega)
              · exact Or.inr fun i h3 h4 => h i (by omega) h4) j, t5 hh j, wr_ne (by omega), fr2 _ _ (by omega)]
          · by_cases qh : 0 < hm c L N d (nx s (L k)) (u ||| 2 ^ k)
            · have hg : gd c L N d s u k = true := by unfold gd; rw [hc, decide_eq_true qh]; rfl
              rw [ef, hg, if_pos rfl]
              obtain ⟨v1, v2⟩ := t6 h0 qh
              have hun := i6 (Or.inl (by omega))
              refine ⟨fun j hj => ?_, ?_, fun j hj => ?_⟩
              · rw [hun, v1 j (by omega), wr_ne (by omega), fr2 _ _ (by omega)]
              · rw [hun, v1 at0 (by omega), wr_eq]
              · rw [hun, v2 j hj]
            · have hg : gd c L N d s u k = false := by unfold gd; rw [hc, decide_eq_false qh]; rfl
              rw [ef, hg, if_neg Bool.false_ne_true] at h1 ⊢
              obtain ⟨v1, v2⟩ := i7 (by omega) h1
              exact ⟨fun j hj => by rw [v1 j hj, t4 j (by omega), wr_ne (by omega), fr2 _ _ (by omega)], v2⟩
      · have hlt : sd (L k) (al c) < 4294967296 := sd_lt (n := 32) _ (by omega)
        rw [if_neg (by rw [n_eq hlt (by omega)]; exact qa)] at stp
        unfold md_tellsOrders_J113 at stp
        rw [if_pos rfl] at stp
        have qt : tk c s (L k) = 0 := by
          refine Classical.byContradiction fun q => qa ?_
          have h1 := vl_sub (c := c) (s := s) (k := L k) ⟨by omega, q⟩ l2
          have h5 := sub_lt h1 (here_lt (bk := s % 2) hw hs)
          refine sd_0.mpr fun i hi => ?_
          rw [al_b, decide_eq_true_iff]
          refine Classical.byContradiction fun e => ?_
          rw [tb_big h5 (by omega)] at hi
          exact Bool.noConfusion hi
        refine skip (by unfold cf; rw [qt]; simp) M (fun _ _ _ => rfl) ?_
        rw [stp, n_lit, n_add]
theorem r_tells {c L : Nat → Nat} {T N : Nat} (hw : WR c) (hb : WB T c) (hT : T ≤ 520) (hN : N ≤ 6) : ∀ d fu at0 u s ord (M : Mem), d < fu → at0 + d = N → us N d u → sts c s → EY M c → LR M N L → M 0 22 = nI ord → ord + hm c L N d s u ≤ 1000000 → ∃ M', md_tellsOrders fu (nI at0) (nI u) (nI s) M = some M' ∧ TO c L N d at0 u s ord M M' := by
  intro d
  induction d with
  | zero =>
    intro fu at0 u s ord M hf ha hu hs hE hL ho hle
    obtain ⟨fu, rfl⟩ : ∃ f, fu = f + 1 := ⟨fu - 1, by omega⟩
    have ha : at0 = N := by omega
    subst ha
    have h1 : hm c L at0 0 s u = 1 := rfl
    have go : md_tellsOrders (fu + 1) (nI at0) (nI u) (nI s) M = if ord + 1 = 1 then md_tellsOrders_L29 (md_tellsOrders fu) (nI at0) (nI u) (nI s) (fun M12 => some M12) FU (nI 0) (wr M 0 22 (nI (ord + 1))) else some (wr M 0 22 (nI (ord + 1))) := by
      show md_tellsOrders_S (md_tellsOrders fu) (nI at0) (nI u) (nI s) M = _
      unfold md_tellsOrders_S
      rw [hL.1, if_pos rfl]
      simp (disch := omega) only [n_lit, lt1_ap, ho, n_add, wr_eq, n_eq]
    by_cases q : ord = 0
    · subst q
      obtain ⟨M', e1, e2, e3⟩ := rcp_L hN (self := md_tellsOrders fu) (p2 := nI u) (p3 := nI s) (K := fun M12 => some M12) at0 0 FU (wr M 0 22 (nI (0 + 1))) (by omega) (by rw [FUe]; omega)
      refine ⟨M', by rw [go, if_pos rfl]; exact e1, EY_fr hE fun i => by rw [e3 _ _ (by omega), wr_ne (by omega)], LR_cong hL fun r i hr => by rw [e3 _ _ (by omega), wr_ne (by omega)], by rw [e3 _ _ (by omega), wr_eq, h1], fun j hj => by rw [e3 _ _ (by omega), wr_ne (by omega)], fun h => by omega, fun _ _ => ⟨fun j hj => by rw [e2 j (Nat.zero_le _) hj, wr_ne (by omega)], fun j hj => absurd hj (by omega)⟩, fun r i a b e => by rw [e3 r i (by omega), wr_ne (by omega)]⟩
    · refine ⟨wr M 0 22 (nI (ord + 1)), by rw [go, if_neg (by omega)], EY_fr hE fun i => wr_ne (by omega), LR_cong hL fun r i hr => wr_ne (by omega), by rw [wr_eq, h1], fun j hj => wr_ne (by omega), fun _ j => wr_ne (by omega), fun h => absurd h q, fun r i a b e => wr_ne (by omega)⟩
  | succ d ih =>
    intro fu at0 u s ord M hf ha hu hs hE hL ho hle
    obtain ⟨fu, rfl⟩ : ∃ f, fu = f + 1 := ⟨fu - 1, by omega⟩
    obtain ⟨M', i1, i2, i3, i4, i5, i6, i7, i8⟩ := rto_L hw hb hT hN hs hu ha (self := md_tellsOrders fu) (fun u' s' ord' M2 h1 h2 h3 h4 h5 h6 => ih fu (at0 + 1) u' s' ord' M2 (by omega) (by omega) h1 h2 h3 h4 h5 h6) hle (K := fun M8 => some M8) N 0 FU M (by omega) (by rw [FUe]; omega) hE hL ho
    refine ⟨M', ?_, i2, i3, i4, i5, fun h => ?_, fun h0 h1 => ?_, i8⟩
    · show md_tellsOrders_S (md_tellsOrders fu) (nI at0) (nI u) (nI s) M = _
      unfold md_tellsOrders_S
      rw [hL.1, if_neg (by rw [n_eq (by omega) (by omega)]; omega)]
      exact i1
    · refine i6 ?_
      rcases h with h | h
      · exact Or.inl (by omega)
      · refine Or.inr fun i _ hi => Bool.eq_false_iff.mpr fun hg => ?_
        have := hm_pos.mpr ⟨i, hi, hg⟩
        omega
    · obtain ⟨i, hi, hg⟩ := hm_pos.mp h1
      have hlt : ff (gd c L N d s u) 0 N < N := by
        rcases ff_spec (p := gd c L N d s u) (m := N) (k := 0) with ⟨a, _⟩ | ⟨_, b⟩
        · omega
        · rw [b i (Nat.zero_le _) (by omega)] at hg
          exact Bool.noConfusion hg
      obtain ⟨v1, v2, v3⟩ := i7 (by rw [h0]; rfl) hlt
      refine ⟨v1, fun j hj => ?_⟩
      match j, hj with
      | 0, _ => exact v2
      | j + 1, hj =>
        have := v3 j (by omega)
        rw [show at0 + (j + 1) = at0 + 1 + j by omega]
        exact this
