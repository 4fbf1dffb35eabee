/-! the class's plans: the cheapest first -/
def INF : Nat := 2147483647
def fnG (G : Nat → Nat) : Nat := ct (fun s => decide (G s < 2147483647)) 2048
theorem fnG_le (G : Nat → Nat) : fnG G ≤ 2048 := ct_le _ _
theorem fnG_new {G : Nat → Nat} {s v : Nat} (hs : s < 2048) (h : G s = 2147483647) (hv : v < 2147483647) : fnG (upf G s v) = fnG G + 1 := ct_new (p := fun s => decide (G s < 2147483647)) (q := fun u => decide (upf G s v u < 2147483647)) (i := s) (fun u _ hu => by rw [upf_ne hu]) hs (decide_eq_false (by omega)) (by rw [upf_eq]; exact decide_eq_true hv)
theorem fnG_old {G : Nat → Nat} {s v : Nat} (h : G s < 2147483647) (hv : v < 2147483647) : fnG (upf G s v) = fnG G := ct_cong fun u _ => by
  by_cases e : u = s
  · rw [e, upf_eq]
    exact decide_eq_decide.mpr (by omega)
  · rw [upf_ne e]
theorem fnG_lt {G : Nat → Nat} {s : Nat} (hs : s < 2048) (h : G s = 2147483647) : fnG G < 2048 := by
  have h1 := fnG_new (G := G) hs h (v := 0) (by omega)
  have h2 := fnG_le (upf G s 0)
  omega
/-- cost and open -/
def DM (M : Mem) (G : Nat → Nat) (no : Nat) (o : Nat → Nat) : Prop := M 82 5 = nI no ∧ (∀ s, s < 2048 → M 83 s = nI (G s)) ∧ (∀ i, i < no → M 84 i = nI (o i))
theorem DM_cong {M M' : Mem} {G : Nat → Nat} {no : Nat} {o : Nat → Nat} (h : DM M G no o) (e : ∀ r i, ((r = 82 ∧ i = 5) ∨ r = 83 ∨ r = 84) → M' r i = M r i) : DM M' G no o := by
  obtain ⟨h1, h2, h3⟩ := h
  exact ⟨by rw [e _ _ (by omega), h1], fun s hs => by rw [e _ _ (by omega), h2 s hs], fun i hi => by rw [e _ _ (by omega), h3 i hi]⟩
/-- after some moves of x -/
def RLX (c : Nat → Nat) (bm : Bool) (x : Nat) (G : Nat → Nat) (no : Nat) (o : Nat → Nat) (ns : Nat) (G' : Nat → Nat) (no' : Nat) (o' : Nat → Nat) : Prop := (∀ s, G' s = G s ∨ (∃ k, vl c x k ∧ s = nx x k ∧ G' s = G x + kc bm (tk c x k) 1 ∧ G' s < G s)) ∧ no' + ns = fnG G' ∧ (∀ s, (∃ i, i < no' ∧ o' i = s) ↔ ((∃ i, i < no ∧ o i = s) ∨ (G s = 2147483647 ∧ G' s < 2147483647)))
theorem k_reach {c : Nat → Nat} {bm : Bool} {x k ns no : Nat} {G o : Nat → Nat} {M : Mem} (hw : WR c) (hx : sts c x) (hv : vl c x k) (hD : DM M G no o) (hc : no + ns = fnG G) (hG : ∀ s, G s ≤ 2147483647) (hb : G x + kc bm (tk c x k) 1 < 2147483647) : ∃ M' G' no' o', pl_reach (nI (nx x k)) (nI (G x + kc bm (tk c x k) 1)) M = some M' ∧ DM M' G' no' o' ∧ RLX c bm x G no o ns G' no' o' ∧ G' (nx x k) ≤ G x + kc bm (tk c x k) 1 ∧ (∀ r i, ¬ (r = 82 ∧ i = 5) → ¬ r = 83 → ¬ r = 84 → M' r i = M r i) := by
  have hu := nx_lt hw hx hv
  have u2 := sts_2048 hw hu
  obtain ⟨h1, h2, h3⟩ := id hD
  have hGu := hG (nx x k)
  have hno : no ≤ 2048 := by have := fnG_le G; omega
  unfold pl_reach
  simp (disch := omega) only [n_lit, chk_in, n_cl, h2, n_lt, n_eq, h1]
  by_cases q : G x + kc bm (tk c x k) 1 < G (nx x k)
  · rw [if_pos q]
    have eU : ∀ s, ¬ s = nx x k → upf G (nx x k) (G x + kc bm (tk c x k) 1) s = G s := fun s hs => upf_ne hs
    have eN : upf G (nx x k) (G x + kc bm (tk c x k) 1) (nx x k) = G x + kc bm (tk c x k) 1 := upf_eq
    have rl : ∀ s, upf G (nx x k) (G x + kc bm (tk c x k) 1) s = G s ∨ (∃ k', vl c x k' ∧ s = nx x k' ∧ upf G (nx x k) (G x + kc bm (tk c x k) 1) s = G x + kc bm (tk c x k') 1 ∧ upf G (nx x k) (G x + kc bm (tk c x k) 1) s < G s) := fun s => by
      by_cases e : s = nx x k
      · exact Or.inr ⟨k, hv, e, by rw [e, eN], by rw [e, eN]; exact q⟩
      · exact Or.inl (eU s e)
    by_cases q2 : G (nx x k) = 2147483647
    · have hlt := fnG_lt u2 q2
      rw [if_pos q2, if_pos (show no < 2048 by omega)]
      refine ⟨wr (wr (wr M 84 no (nI (nx x k))) 82 5 (nI (no + 1))) 83 (nx x k) (nI (G x + kc bm (tk c x k) 1)), upf G (nx x k) (G x + kc bm (tk c x k) 1), no + 1, upf o no (nx x k), ?_, ⟨?_, fun s hs => ?_, fun i hi => ?_⟩, ⟨rl, by rw [fnG_new u2 q2 hb]; omega, fun s => ?_⟩, Nat.le_of_eq eN, fun r i a b d => by rw [wr_ne (by omega), wr_ne a, wr_ne (by omega)]⟩
      · simp (disch := omega) only [chk_in, n_cl, lt1_ap]
        rw [wr_ne (M := M) (by omega), h1, n_add]
      · rw [wr_ne (by omega), wr_eq]
      · by_cases e : s = nx x k
        · rw [e, wr_eq, eN]
        · rw [wr_ne (by omega), wr_ne (by omega), wr_ne (by omega), eU s e]
          exact h2 s hs
      · rw [wr_ne (by omega), wr_ne (by omega)]
        by_cases e : i = no
        · rw [e, wr_eq, upf_eq]
        · rw [wr_ne (by omega), upf_ne e]
          exact h3 i (by omega)
      · constructor
        · rintro ⟨i, hi, hs⟩
          by_cases e : i = no
          · rw [e, upf_eq] at hs
            subst hs
            exact Or.inr ⟨q2, by rw [eN]; exact hb⟩
          · rw [upf_ne e] at hs
            exact Or.inl ⟨i, by omega, hs⟩
        · rintro (⟨i, hi, hs⟩ | ⟨e1, e2⟩)
          · exact ⟨i, by omega, by rw [upf_ne (by omega)]; exact hs⟩
          · refine ⟨no, by omega, ?_⟩
            rw [upf_eq]
            refine Classical.byContradiction fun e => ?_
            rw [eU s (fun h => e h.symm)] at e2
            omega
    · rw [if_neg q2]
      refine ⟨wr M 83 (nx x k) (nI (G x + kc bm (tk c x k) 1)), upf G (nx x k) (G x + kc bm (tk c x k) 1), no, o, ?_, ⟨?_, fun s hs => ?_, fun i hi => ?_⟩, ⟨rl, by rw [fnG_old (by omega) hb]; exact hc, fun s => ?_⟩, Nat.le_of_eq eN, fun r i a b d => wr_ne (by omega)⟩
      · simp (disch := omega) only [chk_in, n_cl, lt1_ap]
      · rw [wr_ne (by omega), h1]
      · by_cases e : s = nx x k
        · rw [e, wr_eq, eN]
        · rw [wr_ne (by omega), eU s e]
          exact h2 s hs
      · rw [wr_ne (by omega)]
        exact h3 i hi
      · constructor
        · exact fun h => Or.inl h
        · rintro (h | ⟨e1, e2⟩)
          · exact h
          · by_cases e : s = nx x k
            · rw [e] at e1
              exact absurd e1 q2
            · rw [eU s e] at e2
              omega
  · rw [if_neg q]
    exact ⟨M, G, no, o, rfl, hD, ⟨fun s => Or.inl rfl, hc, fun s => ⟨fun h => Or.inl h, fun h => h.resolve_right fun e => by omega⟩⟩, by omega, fun _ _ _ _ _ => rfl⟩
theorem RLX_le {c : Nat → Nat} {bm : Bool} {x no ns no' : Nat} {G o G' o' : Nat → Nat} (h : RLX c bm x G no o ns G' no' o') (s : Nat) : G' s ≤ G s := by
  rcases h.1 s with q | ⟨k, _, _, _, q⟩ <;> omega
theorem RLX_x {c : Nat → Nat} {bm : Bool} {x no ns no' : Nat} {G o G' o' : Nat → Nat} (h : RLX c bm x G no o ns G' no' o') : G' x = G x := by
  rcases h.1 x with q | ⟨k, hv, e, _, _⟩
  · exact q
  · exact absurd e.symm (nx_ne hv)
theorem RLX_tr {c : Nat → Nat} {bm : Bool} {x no ns no1 no2 : Nat} {G o G1 o1 G2 o2 : Nat → Nat} (h : RLX c bm x G no o ns G1 no1 o1) (h2 : RLX c bm x G1 no1 o1 ns G2 no2 o2) (hG : ∀ s, G s ≤ 2147483647) : RLX c bm x G no o ns G2 no2 o2 := by
  have hx := RLX_x h
  refine ⟨fun s => ?_, h2.2.1, fun s => ?_⟩
  · rcases h2.1 s with q | ⟨k, hv, e, q, q2⟩
    · rw [q]
      exact h.1 s
    · refine Or.inr ⟨k, hv, e, by rw [q, hx], ?_⟩
      have := RLX_le h s
      omega
  · rw [h2.2.2 s, h.2.2 s]
    have l1 := RLX_le h s
    have l2 := RLX_le h2 s
    have l3 := hG s
    constructor
    · rintro ((a | ⟨a, b⟩) | ⟨a, b⟩)
      · exact Or.inl a
      · exact Or.inr ⟨a, by omega⟩
      · exact Or.inr ⟨by omega, b⟩
    · rintro (a | ⟨a, b⟩)
      · exact Or.inl (Or.inl a)
      · by_cases q : G1 s < 2147483647
        · exact Or.inl (Or.inr ⟨a, q⟩)
        · exact Or.inr ⟨by omega, b⟩
theorem kc1_le {bm : Bool} {t : Nat} (h : t ≤ 69) : kc bm t 1 ≤ 282625 ∧ 1 ≤ kc bm t 1 := by
  unfold kc
  split <;> omega
theorem k_price {M : Mem} {bm : Bool} {t : Nat} (h : M 82 9 = bI bm) (ht : t ≤ 69) : pl_price (nI t) M = some (nI (kc bm t 1)) := by
  unfold pl_price kc
  rw [h]
  simp only [n_lit, bI_0, n_mul, n_add]
  cases bm
  · rfl
  · rfl
theorem LsM_cong {M M' : Mem} {c : Nat → Nat} {s B x : Nat} (h : LsM M c s B x) (e : ∀ r i, ((r = 75 ∧ i = 10) ∨ r = 80 ∨ r = 81) → M' r i = M r i) : LsM M' c s B x := by
  obtain ⟨N, l, h1, h2, h3, h4, h5⟩ := h
  refine ⟨N, l, h1, by rw [e _ _ (by omega), h2], fun i hi => ?_, h4, h5⟩
  rw [e _ _ (by omega), e _ _ (by omega)]
  exact h3 i hi
theorem sp_L {c : Nat → Nat} {bm : Bool} {x ns : Nat} {K : Mem → Option Mem} (hw : WR c) (hx : sts c x) {N : Nat} {l : Nat → Nat} (hN : N ≤ 1034) (hl : ∀ i, i < N → vl c x (l i)) : ∀ m i fu (M : Mem) G no o, i + m = N → m < fu → M 75 10 = nI N → (∀ i, i < N → M 80 i = nI (l i) ∧ M 81 i = nI (tk c x (l i))) → M 82 9 = bI bm → DM M G no o → no + ns = fnG G → (∀ s, G s ≤ 2147483647) → G x + 282625 < 2147483647 → ∃ M' G' no' o', pl_spread_L10 (nI x) K fu (nI i) M = K M' ∧ DM M' G' no' o' ∧ RLX c bm x G no o ns G' no' o' ∧ (∀ j, i ≤ j → j < N → G' (nx x (l j)) ≤ G x + kc bm (tk c x (l j)) 1) ∧ (∀ r i, ¬ (r = 82 ∧ i = 5) → ¬ r = 83 → ¬ r = 84 → M' r i = M r i)
  | 0, i, 0, _, _, _, _, _, hf => absurd hf (by omega)
  | 0, i, fu + 1, M, G, no, o, hk, _ => fun h75 _ _ hD hc hG _ => by
    refine ⟨M, G, no, o, ?_, hD, ⟨fun s => Or.inl rfl, hc, fun s => ⟨fun h => Or.inl h, fun h => h.resolve_right fun e => by omega⟩⟩, fun j h1 h2 => absurd h2 (by omega), fun _ _ _ _ _ => rfl⟩
    rw [pl_spread_L10, h75]
    simp (disch := omega) only [n_lit, n_lt, if_neg]
  | m + 1, i, 0, _, _, _, _, _, hf => absurd hf (by omega)
  | m + 1, i, fu + 1, M, G, no, o, hk, hf => fun h75 hL h9 hD hc hG hb => by
    have hx2 := sts_2048 hw hx
    have hv := hl i (by omega)
    have hv1 := hv.1
    have hn := WR_n hw
    have ht := tk_le hw x (l i)
    have hp := kc1_le (bm := bm) ht
    obtain ⟨M1, G1, no1, o1, e1, e2, e3, e4, e5⟩ := k_reach (bm := bm) (ns := ns) hw hx hv hD hc hG (by omega)
    have gx := RLX_x e3
    obtain ⟨M', G', no', o', i1, i2, i3, i4, i5⟩ := sp_L (K := K) hw hx hN hl m (i + 1) fu M1 G1 no1 o1 (by omega) (by omega) (by rw [e5 _ _ (by omega) (by omega) (by omega), h75]) (fun j hj => by
      rw [e5 _ _ (by omega) (by omega) (by omega), e5 _ _ (by omega) (by omega) (by omega)]
      exact hL j hj) (by rw [e5 _ _ (by omega) (by omega) (by omega), h9]) e2 e3.2.1 (fun s => Nat.le_trans (RLX_le e3 s) (hG s)) (by omega)
    refine ⟨M', G', no', o', ?_, i2, RLX_tr e3 i3 hG, fun j h1 h2 => ?_, fun r i a b d => by rw [i5 r i a b d, e5 r i a b d]⟩
    · rw [pl_spread_L10, h75]
      simp (disch := omega) only [n_lit, n_lt, if_pos, chk_in, n_cl]
      rw [(hL i (by omega)).1, (hL i (by omega)).2, k_behind hx2 (by omega), k_price h9 ht, hD.2.1 x hx2]
      simp only [bind_s, n_add]
      rw [e1]
      simp only [bind_s]
      exact i1
    · by_cases e : j = i
      · subst e
        exact Nat.le_trans (RLX_le i3 _) e4
      · have := i4 j (by omega) h2
        rw [gx] at this
        exact this
theorem k_spread {c : Nat → Nat} {bm : Bool} {x ns no : Nat} {G o : Nat → Nat} {M : Mem} (hx : sts c x) (hV : MV M c) (h9 : M 82 9 = bI bm) (hD : DM M G no o) (hc : no + ns = fnG G) (hG : ∀ s, G s ≤ 2147483647) (hb : G x + 282625 < 2147483647) : ∃ M' G' no' o', pl_spread (nI x) M = some M' ∧ DM M' G' no' o' ∧ RLX c bm x G no o ns G' no' o' ∧ (∀ k, vl c x k → G' (nx x k) ≤ G x + kc bm (tk c x k) 1) ∧ MV M' c ∧ (∀ r i, ¬ (r = 75 ∧ i = 10) → ¬ r = 80 → ¬ r = 81 → ¬ (r = 82 ∧ i = 5) → ¬ r = 83 → ¬ r = 84 → M' r i = M r i) := by
  have hw := hV.2.2
  obtain ⟨M1, e1, ⟨N, l, n1, n2, n3, n4, n5⟩, e3, e4⟩ := k_list hV hx
  obtain ⟨M', G', no', o', i1, i2, i3, i4, i5⟩ := sp_L (bm := bm) (ns := ns) (K := fun M6 => some M6) hw hx n1 (fun i hi => (n3 i hi).2.2.1) N 0 FU M1 G no o (by omega) (by rw [FUe]; omega) n2 (fun i hi => ⟨(n3 i hi).1, (n3 i hi).2.1⟩) (by rw [e4 _ _ (by omega) (by omega) (by omega), h9]) (DM_cong hD fun r i hr => e4 r i (by omega) (by omega) (by omega)) hc hG hb
  refine ⟨M', G', no', o', ?_, i2, i3, fun k hv => ?_, MV_cong e3 fun r i h1 h2 => i5 r i (by omega) (by omega) (by omega), fun r i a b d e f g => by rw [i5 r i e f g, e4 r i a b d]⟩
  · unfold pl_spread
    rw [e1, bind_s]
    exact i1
  · obtain ⟨i, hi, rfl⟩ := n5 k hv.1 hv
    exact i4 i (Nat.zero_le _) hi
theorem tc_L {M : Mem} {G o : Nat → Nat} {no : Nat} (hD : DM M G no o) (ho : ∀ i, i < no → o i < 2048) (hG : ∀ s, G s ≤ 2147483647) (hn : no ≤ 2048) {K : Int32 → Option (Int32 × Mem)} : ∀ m k x fu, k + m = no → x < k → m < fu → (∀ j, j < k → G (o x) ≤ G (o j)) → ∃ x', x' < no ∧ pl_takeCheapest_L4 M K fu (nI x) (nI k) = K (nI x') ∧ ∀ j, j < no → G (o x') ≤ G (o j)
  | 0, k, x, 0, _, _, hf => absurd hf (by omega)
  | 0, k, x, fu + 1, hk, hx, _ => fun h => by
    refine ⟨x, by omega, ?_, fun j hj => h j (by omega)⟩
    rw [pl_takeCheapest_L4, hD.1]
    simp (disch := omega) only [n_lit, n_lt, if_neg]
  | m + 1, k, x, 0, _, _, hf => absurd hf (by omega)
  | m + 1, k, x, fu + 1, hk, hx, hf => fun h => by
    have g1 := hG (o x)
    have g2 := hG (o k)
    have o1 := ho x (by omega)
    have o2 := ho k (by omega)
    have stp : pl_takeCheapest_L4 M K (fu + 1) (nI x) (nI k) = if G (o k) < G (o x) then pl_takeCheapest_L4 M K fu (nI k) (nI (k + 1)) else pl_takeCheapest_L4 M K fu (nI x) (nI (k + 1)) := by
      rw [pl_takeCheapest_L4, hD.1]
      simp (disch := omega) only [n_lit, n_lt, if_pos, chk_in, n_cl, hD.2.2, hD.2.1, n_add]
    by_cases q : G (o k) < G (o x)
    · obtain ⟨x', i1, i2, i3⟩ := tc_L hD ho hG hn (K := K) m (k + 1) k fu (by omega) (by omega) (by omega) (fun j hj => by
        by_cases e : j = k
        · rw [e]; exact Nat.le_refl _
        · have := h j (by omega); omega)
      exact ⟨x', i1, by rw [stp, if_pos q]; exact i2, i3⟩
    · obtain ⟨x', i1, i2, i3⟩ := tc_L hD ho hG hn (K := K) m (k + 1) x fu (by omega) (by omega) (by omega) (fun j hj => by
        by_cases e : j = k
        · rw [e]; omega
        · exact h j (by omega))
      exact ⟨x', i1, by rw [stp, if_neg q]; exact i2, i3⟩
theorem k_take {M : Mem} {G o : Nat → Nat} {no : Nat} (hD : DM M G no o) (ho : ∀ i, i < no → o i < 2048) (hG : ∀ s, G s ≤ 2147483647) (hn : no ≤ 2048) (h0 : 0 < no) : ∃ x M' o', pl_takeCheapest M = some (nI x, M') ∧ DM M' G (no - 1) o' ∧ (∀ j, j < no → G x ≤ G (o j)) ∧ (∀ s, (∃ i, i < no ∧ o i = s) ↔ (s = x ∨ ∃ i, i < no - 1 ∧ o' i = s)) ∧ (∀ r i, ¬ (r = 82 ∧ i = 5) → ¬ r = 84 → M' r i = M r i) := by
  obtain ⟨b, hb, e1, e2⟩ := tc_L hD ho hG hn (K := fun v1_0 => chk (inb v1_0 2048) (lt1 (wr M 82 5 ((M 82 5) - (nI 1))) fun M2 => chk (inb (M2 82 5) 2048) (chk (inb v1_0 2048) (lt1 (wr M2 84 v1_0.toNatClampNeg (M2 84 (M2 82 5).toNatClampNeg)) fun M3 => some ((M 84 v1_0.toNatClampNeg), M3))))) (no - 1) 1 0 FU (by omega) (by omega) (by rw [FUe]; omega) (fun j hj => by rw [show j = 0 by omega]; exact Nat.le_refl _)
  refine ⟨o b, wr (wr M 82 5 (nI (no - 1))) 84 b (nI (o (no - 1))), upf o b (o (no - 1)), ?_, ⟨?_, fun s hs => ?_, fun i hi => ?_⟩, e2, fun s => ?_, fun r i a d => by rw [wr_ne (by omega), wr_ne a]⟩
  · refine Eq.trans e1 ?_
    simp (disch := omega) only [chk_in, n_cl, lt1_ap, hD.1, n_sub, wr_eq]
    rw [wr_ne (M := M) (by omega), hD.2.2 (no - 1) (by omega), hD.2.2 b hb]
  · rw [wr_ne (by omega), wr_eq]
  · rw [wr_ne (by omega), wr_ne (by omega)]
    exact hD.2.1 s hs
  · by_cases e : i = b
    · rw [e, wr_eq, upf_eq]
    · rw [wr_ne (by omega), wr_ne (by omega), upf_ne e]
      exact hD.2.2 i (by omega)
  · constructor
    · rintro ⟨i, hi, hs⟩
      by_cases e : i = b
      · rw [e] at hs
        exact Or.inl hs.symm
      · by_cases e2 : i = no - 1
        · refine Or.inr ⟨b, by omega, ?_⟩
          rw [upf_eq, ← e2]
          exact hs
        · exact Or.inr ⟨i, by omega, by rw [upf_ne e]; exact hs⟩
    · rintro (hs | ⟨i, hi, hs⟩)
      · exact ⟨b, hb, hs.symm⟩
      · by_cases e : i = b
        · rw [e, upf_eq] at hs
          exact ⟨no - 1, by omega, hs⟩
        · rw [upf_ne e] at hs
          exact ⟨i, by omega, hs⟩
