/-! row -/
/-- on a best way from the start -/
def TG (c : Nat → Nat) (g : Nat) (bm : Bool) (G : Nat → Nat) (b s : Nat) : Prop := G s < 2147483647 ∧ ∃ a m, opt c g bm s a m ∧ G s + kc bm a m = b
/-- k goes on on a best way -/
def TGk (c : Nat → Nat) (g : Nat) (bm : Bool) (G : Nat → Nat) (b s k : Nat) : Prop := TG c g bm G b (nx s k) ∧ G (nx s k) = G s + kc bm (tk c s k) 1
theorem TG_le {c : Nat → Nat} {g b s : Nat} {bm : Bool} {G : Nat → Nat} (h : TG c g bm G b s) : G s ≤ b := by
  obtain ⟨_, a, m, _, e⟩ := h
  omega
theorem TG_go {c : Nat → Nat} {g s0 ns b : Nat} {bm : Bool} {M : Mem} {G z : Nat → Nat} (h : SD c g bm s0 M G ns z (some b)) {s k : Nat} (hf : G s < 2147483647) (hv : vl c s k) (hk : TGk c g bm G b s k) : TG c g bm G b s ∧ ∃ a m x y, opt c g bm s a m ∧ vl c s k ∧ opt c g bm (nx s k) x y ∧ a = x + tk c s k ∧ m = y + 1 := by
  have hlow := SD_low h
  have hw := h.2.2.1.2.2
  have hs := h.2.2.2.1.2.1 s hf
  obtain ⟨⟨hfn, x, y, ho, e1⟩, e2⟩ := hk
  obtain ⟨a, m, hos⟩ := opt_has hv ho
  have hn := nx_lt hw hs hv
  have b1 := opt_bd hw hn ho
  have b2 := opt_bd hw hs hos
  have ht := tk_le hw s k
  have k1 := kc_add bm x y (tk c s k) 1
  have l1 := hlow m s a hos.1 hf
  have l2 := opt_kc hw hs hos (m' := y + 1) (a' := tk c s k + x) ⟨k, x, hv, ho.1, rfl⟩
  rw [Nat.add_comm (tk c s k) x] at l2
  have e3 : kc bm a m = kc bm (x + tk c s k) (y + 1) := by omega
  have e4 := kc_inj (bm := bm) (by omega) (by omega) (by omega) (by omega) e3
  exact ⟨⟨hf, a, m, hos, by omega⟩, a, m, x, y, hos, hv, ho, e4.1, e4.2⟩
theorem TG_back {c : Nat → Nat} {g s0 ns b : Nat} {bm : Bool} {M : Mem} {G z : Nat → Nat} (h : SD c g bm s0 M G ns z (some b)) {s k a m x y : Nat} (ht : TG c g bm G b s) (hg : ¬ gl g s) (hv : vl c s k) (hs : opt c g bm s a m) (hn : opt c g bm (nx s k) x y) (ea : a = x + tk c s k) (em : m = y + 1) : TGk c g bm G b s k := by
  have hlow := SD_low h
  obtain ⟨h83, hSM, hV, ⟨a2, a3, a4, a5, a7, a8, a9, a10, a11, b0, b1⟩, hns, hdone⟩ := h
  have hw := hV.2.2
  have hle := TG_le ht
  obtain ⟨hf, a', m', ho, e⟩ := ht
  have hst := a3 s hf
  obtain ⟨ea', em'⟩ := opt_one hw hst hs ho
  subst ea' em'
  obtain ⟨i, hi, ez⟩ := hdone s hf fun b' e => by injection e with e; omega
  have h4 := a7 i hi (by rw [ez]; exact hg) k (by rw [ez]; exact hv)
  rw [ez] at h4
  have h5 := kc1_le (bm := bm) (tk_le hw s k)
  have h6 := a8 s hf
  have h7 : 282625 * ns ≤ 282625 * 2048 := Nat.mul_le_mul_left _ hns
  have hfn : G (nx s k) < 2147483647 := by omega
  have l1 := hlow y (nx s k) x hn.1 hfn
  have k1 := kc_add bm x y (tk c s k) 1
  rw [← ea, ← em] at k1
  exact ⟨⟨hfn, x, y, hn, by omega⟩, by omega⟩
/-- marks -/
def MKP (P : Nat → Bool) (c : Nat → Nat) (g : Nat) (bm : Bool) (G : Nat → Nat) (b s k : Nat) : Prop := P (nx s k) = true ∧ G (nx s k) = G s + kc bm (tk c s k) 1
theorem fp_L {c : Nat → Nat} {g : Nat} {bm : Bool} {s N b : Nat} {l : Nat → Nat} {G : Nat → Nat} {P : Nat → Bool} {M : Mem} (hw : WR c) (hs : sts c s) (hN : N ≤ 1034) (h75 : M 75 10 = nI N) (hl : ∀ i, i < N → M 80 i = nI (l i) ∧ M 81 i = nI (tk c s (l i)) ∧ vl c s (l i)) (h9 : M 82 9 = bI bm) (h83 : ∀ u, u < 2048 → M 83 u = nI (G u)) (hG : ∀ u, G u ≤ 2147483647) (hGs : G s + 282625 < 2147483647) (h86 : ∀ u, u < 2048 → M 86 u = bI (P u)) {K : Option (Int32 × Mem)} : ∀ m i fu, i + m = N → m < fu → (∃ q, i ≤ q ∧ q < N ∧ MKP P c g bm G b s (l q) ∧ (∀ j, i ≤ j → j < q → ¬ MKP P c g bm G b s (l j)) ∧ pl_firstOnPlan_L10 (nI s) M K fu (nI i) = some (nI (l q), M)) ∨ ((∀ j, i ≤ j → j < N → ¬ MKP P c g bm G b s (l j)) ∧ pl_firstOnPlan_L10 (nI s) M K fu (nI i) = K)
  | 0, i, 0, _, hf => absurd hf (by omega)
  | 0, i, fu + 1, hk, _ => by
    refine Or.inr ⟨fun j h1 h2 => absurd h2 (by omega), ?_⟩
    rw [pl_firstOnPlan_L10, h75]
    simp (disch := omega) only [n_lit, n_lt, if_neg]
  | m + 1, i, 0, _, hf => absurd hf (by omega)
  | m + 1, i, fu + 1, hk, hf => by
    have ih := fp_L hw hs hN h75 hl h9 h83 hG hGs h86 (g := g) (b := b) (K := K) m (i + 1) fu (by omega) (by omega)
    obtain ⟨l1, l2, hv⟩ := hl i (by omega)
    have hv1 := hv.1
    have hn10 := WR_n hw
    have s2 := sts_2048 hw hs
    have n2 := sts_2048 hw (nx_lt hw hs hv)
    have ht := tk_le hw s (l i)
    have hp := kc1_le (bm := bm) ht
    have hgn := hG (nx s (l i))
    have stp : pl_firstOnPlan_L10 (nI s) M K (fu + 1) (nI i) = if bI (P (nx s (l i))) = nI 0 then pl_firstOnPlan_L10 (nI s) M K fu (nI (i + 1)) else if G (nx s (l i)) = G s + kc bm (tk c s (l i)) 1 then some (nI (l i), M) else pl_firstOnPlan_L10 (nI s) M K fu (nI (i + 1)) := by
      rw [pl_firstOnPlan_L10, h75]
      simp (disch := omega) only [n_lit, n_lt, if_pos, chk_in, n_cl]
      rw [l1, l2, k_behind s2 (by omega), k_price h9 ht]
      simp (disch := omega) only [bind_s, chk_in, n_cl, h86, h83, n_add, n_eq]
    have skip : ¬ MKP P c g bm G b s (l i) → pl_firstOnPlan_L10 (nI s) M K (fu + 1) (nI i) = pl_firstOnPlan_L10 (nI s) M K fu (nI (i + 1)) := fun hno => by
      rw [stp]
      cases hP : P (nx s (l i))
      · exact if_pos rfl
      · rw [if_neg (by decide), if_neg (fun e => hno ⟨hP, e⟩)]
    by_cases q : MKP P c g bm G b s (l i)
    · refine Or.inl ⟨i, Nat.le_refl _, by omega, q, fun j h1 h2 => absurd h2 (by omega), ?_⟩
      rw [stp, q.1, if_neg (by decide), if_pos q.2]
    · rcases ih with ⟨r, r1, r2, r3, r4, r5⟩ | ⟨r4, r5⟩
      · refine Or.inl ⟨r, by omega, r2, r3, fun j h1 h2 => ?_, by rw [skip q, r5]⟩
        by_cases e : j = i
        · rw [e]; exact q
        · exact r4 j (by omega) h2
      · refine Or.inr ⟨fun j h1 h2 => ?_, by rw [skip q, r5]⟩
        by_cases e : j = i
        · rw [e]; exact q
        · exact r4 j (by omega) h2
/-- the class's first move on a plan -/
theorem k_first {c : Nat → Nat} {g : Nat} {bm : Bool} {s b : Nat} {G : Nat → Nat} {P : Nat → Bool} {M : Mem} (hV : MV M c) (hs : sts c s) (h9 : M 82 9 = bI bm) (h83 : ∀ u, u < 2048 → M 83 u = nI (G u)) (hG : ∀ u, G u ≤ 2147483647) (hGs : G s + 282625 < 2147483647) (h86 : ∀ u, u < 2048 → M 86 u = bI (P u)) : ∃ M', MV M' c ∧ (∀ r i, ¬ (r = 75 ∧ i = 10) → ¬ r = 80 → ¬ r = 81 → M' r i = M r i) ∧ ((∃ k, vl c s k ∧ MKP P c g bm G b s k ∧ (∀ j, j < k → vl c s j → ¬ MKP P c g bm G b s j) ∧ pl_firstOnPlan (nI s) M = some (nI k, M')) ∨ ((∀ j, vl c s j → ¬ MKP P c g bm G b s j) ∧ pl_firstOnPlan (nI s) M = some (-1, M'))) := by
  have hw := hV.2.2
  obtain ⟨M1, e1, ⟨N, l, n1, n2, n3, n4, n5⟩, e3, e4⟩ := k_list hV hs
  have L := fp_L (g := g) (b := b) (bm := bm) (G := G) (P := P) (M := M1) hw hs n1 n2 (fun i hi => ⟨(n3 i hi).1, (n3 i hi).2.1, (n3 i hi).2.2.1⟩) (by rw [e4 _ _ (by omega) (by omega) (by omega), h9]) (fun u hu => by rw [e4 _ _ (by omega) (by omega) (by omega), h83 u hu]) hG hGs (fun u hu => by rw [e4 _ _ (by omega) (by omega) (by omega), h86 u hu]) (K := some (-1, M1)) N 0 FU (by omega) (by rw [FUe]; omega)
  have hgo : pl_firstOnPlan (nI s) M = pl_firstOnPlan_L10 (nI s) M1 (some (-1, M1)) FU (nI 0) := by
    unfold pl_firstOnPlan
    rw [e1, bind_s]
    rfl
  refine ⟨M1, e3, e4, ?_⟩
  rcases L with ⟨q, _, q2, q3, q4, q5⟩ | ⟨q4, q5⟩
  · refine Or.inl ⟨l q, (n3 q q2).2.2.1, q3, fun j hj hv hm => ?_, by rw [hgo, q5]⟩
    obtain ⟨i, hi, rfl⟩ := n5 j hv.1 hv
    refine q4 i (Nat.zero_le _) (Classical.byContradiction fun e => ?_) hm
    by_cases e2 : i = q
    · rw [e2] at hj
      omega
    · have := n4 q i (by omega) hi
      omega
  · refine Or.inr ⟨fun j hv hm => ?_, by rw [hgo, q5]⟩
    obtain ⟨i, hi, rfl⟩ := n5 j hv.1 hv
    exact q4 i (Nat.zero_le _) hi hm
theorem cl_L {K : Mem → Option Mem} : ∀ m k fu (M : Mem), k + m = 2048 → m < fu → ∃ M', pl_markPlans_L2 K fu (nI k) M = K M' ∧ (∀ s, k ≤ s → s < 2048 → M' 86 s = nI 0) ∧ (∀ r i, ¬ (r = 86 ∧ k ≤ i) → M' r i = M r i)
  | 0, k, 0, M, _, hf => absurd hf (by omega)
  | 0, k, fu + 1, M, hk, _ => by
    refine ⟨M, ?_, fun s h1 h2 => absurd h2 (by omega), fun _ _ _ => rfl⟩
    rw [pl_markPlans_L2]
    simp (disch := omega) only [n_lit, n_lt, if_neg]
  | m + 1, k, 0, M, _, hf => absurd hf (by omega)
  | m + 1, k, fu + 1, M, hk, hf => by
    obtain ⟨M', e1, e2, e3⟩ := cl_L (K := K) m (k + 1) fu (wr M 86 k (nI 0)) (by omega) (by omega)
    refine ⟨M', ?_, fun s h1 h2 => ?_, fun r i hr => ?_⟩
    · rw [pl_markPlans_L2, ← e1]
      simp (disch := omega) only [n_lit, n_lt, if_pos, chk_in, n_cl, lt1_ap, n_add]
    · by_cases e : s = k
      · subst e
        rw [e3 _ _ (by omega), wr_eq]
      · exact e2 s (by omega) h2
    · rw [e3 r i (by omega), wr_ne (by omega)]
theorem SD_cong {c : Nat → Nat} {g s0 ns : Nat} {bm : Bool} {M M' : Mem} {G z : Nat → Nat} {bo : Option Nat} (h : SD c g bm s0 M G ns z bo) (hV : MV M' c) (e : ∀ r i, (r = 82 ∨ r = 83 ∨ r = 85) → M' r i = M r i) : SD c g bm s0 M' G ns z bo := by
  obtain ⟨h83, ⟨s1, s2, s3, s4, s5, s6⟩, _, hB, hns, hd⟩ := h
  exact ⟨fun s hs => by rw [e _ _ (by omega), h83 s hs], ⟨by rw [e _ _ (by omega), s1], fun i hi => by rw [e _ _ (by omega), s2 i hi], by rw [e _ _ (by omega), s3], by rw [e _ _ (by omega), s4], by rw [e _ _ (by omega), s5], by rw [e _ _ (by omega), s6]⟩, hV, hB, hns, hd⟩
/-- those settled from i on are marked -/
def MKD (c : Nat → Nat) (g : Nat) (bm : Bool) (G : Nat → Nat) (b ns : Nat) (z : Nat → Nat) (i : Nat) (P : Nat → Bool) (M : Mem) : Prop := (∀ u, u < 2048 → M 86 u = bI (P u)) ∧ (∀ u, P u = true → TG c g bm G b u) ∧ ∀ j, i ≤ j → j < ns → TG c g bm G b (z j) → P (z j) = true
theorem MKD_k {c : Nat → Nat} {g s0 ns b i : Nat} {bm : Bool} {M M1 : Mem} {G z : Nat → Nat} {P : Nat → Bool} (h : SD c g bm s0 M G ns z (some b)) (hP : MKD c g bm G b ns z (i + 1) P M1) (hi : i < ns) (k : Nat) (hv : vl c (z i) k) : MKP P c g bm G b (z i) k ↔ TGk c g bm G b (z i) k := by
  obtain ⟨h83, hSM, hV, ⟨a2, a3, a4, a5, a7, a8, a9, a10, a11, b0, b1⟩, hns, hdone⟩ := h
  have hw := hV.2.2
  constructor
  · exact fun q => ⟨hP.2.1 _ q.1, q.2⟩
  · rintro ⟨q1, q2⟩
    refine ⟨?_, q2⟩
    have hle := TG_le q1
    obtain ⟨j, hj, e⟩ := hdone _ q1.1 fun b' e => by injection e with e; omega
    have h5 := kc1_le (bm := bm) (tk_le hw (z i) k)
    have hij : i < j := by
      refine Classical.byContradiction fun q => ?_
      by_cases e2 : j = i
      · rw [e2] at e
        rw [← e] at q2
        omega
      · have := a5 j i (by omega) hi
        rw [e] at this
        omega
    rw [← e] at q1 ⊢
    exact hP.2.2 j (by omega) hj q1
theorem TG_ex {c : Nat → Nat} {g s0 ns b : Nat} {bm : Bool} {M : Mem} {G z : Nat → Nat} (h : SD c g bm s0 M G ns z (some b)) {s : Nat} (ht : TG c g bm G b s) (hg : ¬ gl g s) : ∃ k, vl c s k ∧ TGk c g bm G b s k := by
  obtain ⟨hf, a, m, ho, e⟩ := id ht
  obtain ⟨k, x, y, hv, hn, ea, em⟩ := opt_step ho hg
  exact ⟨k, hv, TG_back h ht hg hv ho hn (by omega) em⟩
def upB (P : Nat → Bool) (s : Nat) (v : Bool) (u : Nat) : Bool := if u = s then v else P u
theorem upB_eq {P : Nat → Bool} {s : Nat} {v : Bool} : upB P s v s = v := if_pos rfl
theorem upB_ne {P : Nat → Bool} {s u : Nat} {v : Bool} (h : ¬ u = s) : upB P s v u = P u := if_neg h
theorem mk_L {c : Nat → Nat} {g s0 ns b : Nat} {bm : Bool} {G z : Nat → Nat} (hg : g < 2048) {K : Mem → Option Mem} : ∀ i fu (M : Mem) P, i < fu → i ≤ ns → SD c g bm s0 M G ns z (some b) → MKD c g bm G b ns z i P M → ∃ M' P', pl_markPlans_L29 K fu (nI i - nI 1) M = K M' ∧ SD c g bm s0 M' G ns z (some b) ∧ MKD c g bm G b ns z 0 P' M' ∧ (∀ r j, r < 80 → ¬ (r = 75 ∧ j = 10) → M' r j = M r j) := by
  intro i
  induction i with
  | zero =>
    intro fu M P hf hi hS hP
    obtain ⟨fu, rfl⟩ : ∃ f, fu = f + 1 := ⟨fu - 1, by omega⟩
    refine ⟨M, P, ?_, hS, hP, fun _ _ _ _ => rfl⟩
    rw [pl_markPlans_L29, if_pos (show nI 0 - nI 1 < 0 by decide)]
  | succ i ih =>
    intro fu M P hf hi hS hP
    obtain ⟨fu, rfl⟩ : ∃ f, fu = f + 1 := ⟨fu - 1, by omega⟩
    obtain ⟨h83, hSM, hV, ⟨a2, a3, a4, a5, a7, a8, a9, a10, a11, b0, b1⟩, hns, hdone⟩ := id hS
    have hw := hV.2.2
    have hzf := a4 i (by omega)
    have hzs := a3 _ hzf
    have z2 := sts_2048 hw hzs
    have hz := hSM.2.1 i (by omega)
    have h6 := a8 _ hzf
    have h7 : 282625 * ns ≤ 282625 * 2048 := Nat.mul_le_mul_left _ hns
    have stp : pl_markPlans_L29 K (fu + 1) (nI (i + 1) - nI 1) M = (pl_isGoal (nI (z i)) M).bind fun v4 => (if v4 = 0 then bnd2 (pl_firstOnPlan (nI (z i)) M) fun v7 M6 => (if v7 = (-1 : Int32) then pl_markPlans_L29 K fu (nI i - nI 1) (wr M6 86 (z i) (nI 0)) else pl_markPlans_L29 K fu (nI i - nI 1) (wr M6 86 (z i) (nI 1))) else pl_markPlans_L29 K fu (nI i - nI 1) (wr M 86 (z i) (nI 1))) := by
      rw [n_sub (show 1 ≤ i + 1 by omega), show i + 1 - 1 = i by omega, pl_markPlans_L29, if_neg (by rw [n_lit, n_lt (by omega) (by omega)]; omega)]
      simp (disch := omega) only [chk_in, n_cl, hz, lt1_ap]
      rw [show nI i + (-1) = nI i - nI 1 from (Int32.sub_eq_add_neg _ _).symm]
      rfl
    have hMK : ∀ (v : Bool) (M6 : Mem), (∀ r j, r = 86 → M6 r j = M r j) → (v = true ↔ TG c g bm G b (z i)) → MKD c g bm G b ns z i (upB P (z i) v) (wr M6 86 (z i) (bI v)) := fun v M6 h86 hv => by
      refine ⟨fun u hu => ?_, fun u hu => ?_, fun j h1 h2 h3 => ?_⟩
      · by_cases e : u = z i
        · rw [e, wr_eq, upB_eq]
        · rw [wr_ne (by omega), upB_ne e, h86 _ _ rfl]
          exact hP.1 u hu
      · by_cases e : u = z i
        · rw [e, upB_eq] at hu
          rw [e]
          exact hv.mp hu
        · rw [upB_ne e] at hu
          exact hP.2.1 u hu
      · by_cases e : z j = z i
        · rw [e] at h3 ⊢
          rw [upB_eq]
          exact hv.mpr h3
        · rw [upB_ne e]
          refine hP.2.2 j ?_ h2 h3
          by_cases e2 : j = i
          · rw [e2] at e
            exact absurd rfl e
          · omega
    have hgoal := k_goal (s := z i) hSM.2.2.2.1 hg (by omega)
    by_cases hgz : gl g (z i)
    · have hT : TG c g bm G b (z i) := ⟨hzf, 0, 0, opt_goal hgz, by
        have e1 := (b1 b rfl).2.2 i (by omega) hgz
        have e2 : kc bm 0 0 = 0 := by unfold kc; split <;> rfl
        omega⟩
      obtain ⟨M', P', i1, i2, i3, i4⟩ := ih fu (wr M 86 (z i) (nI 1)) _ (by omega) (by omega) (SD_cong hS (MV_fr hV fun r j hr => wr_ne (by omega)) fun r j hr => wr_ne (by omega)) (hMK true M (fun _ _ _ => rfl) ⟨fun _ => hT, fun _ => rfl⟩)
      refine ⟨M', P', ?_, i2, i3, fun r j hr hr2 => by rw [i4 r j hr hr2, wr_ne (by omega)]⟩
      rw [stp, hgoal, bind_s, decide_eq_true hgz, if_neg (by decide)]
      exact i1
    · obtain ⟨M6, f1, f2, f3⟩ := k_first (g := g) (b := b) (bm := bm) (G := G) (P := P) hV hzs hSM.2.2.2.2.1 h83 a2 (by omega) hP.1
      have hS6 : SD c g bm s0 M6 G ns z (some b) := SD_cong hS f1 fun r j hr => f2 r j (by omega) (by omega) (by omega)
      rcases f3 with ⟨k, k1, k2, k3, k4⟩ | ⟨k3, k4⟩
      · have hk := (MKD_k hS hP (by omega) k k1).mp k2
        have hT := (TG_go hS hzf k1 hk).1
        obtain ⟨M', P', i1, i2, i3, i4⟩ := ih fu (wr M6 86 (z i) (nI 1)) _ (by omega) (by omega) (SD_cong hS6 (MV_fr f1 fun r j hr => wr_ne (by omega)) fun r j hr => wr_ne (by omega)) (hMK true M6 (fun r j hr => f2 r j (by omega) (by omega) (by omega)) ⟨fun _ => hT, fun _ => rfl⟩)
        refine ⟨M', P', ?_, i2, i3, fun r j hr hr2 => by rw [i4 r j hr hr2, wr_ne (by omega), f2 r j hr2 (by omega) (by omega)]⟩
        have hk2 := k1.1
        have hn10 := WR_n hw
        rw [stp, hgoal, bind_s, decide_eq_false hgz, if_pos (show bI false = 0 from rfl), k4]
        unfold bnd2
        dsimp only
        rw [if_neg (nI_nm (by omega))]
        exact i1
      · have hT : ¬ TG c g bm G b (z i) := fun ht => by
          obtain ⟨k, hv, hk⟩ := TG_ex hS ht hgz
          exact k3 k hv ((MKD_k hS hP (by omega) k hv).mpr hk)
        obtain ⟨M', P', i1, i2, i3, i4⟩ := ih fu (wr M6 86 (z i) (nI 0)) _ (by omega) (by omega) (SD_cong hS6 (MV_fr f1 fun r j hr => wr_ne (by omega)) fun r j hr => wr_ne (by omega)) (hMK false M6 (fun r j hr => f2 r j (by omega) (by omega) (by omega)) ⟨fun e => Bool.noConfusion e, fun ht => absurd ht hT⟩)
        refine ⟨M', P', ?_, i2, i3, fun r j hr hr2 => by rw [i4 r j hr hr2, wr_ne (by omega), f2 r j hr2 (by omega) (by omega)]⟩
        rw [stp, hgoal, bind_s, decide_eq_false hgz, if_pos (show bI false = 0 from rfl), k4]
        unfold bnd2
        dsimp only
        rw [if_pos rfl]
        exact i1
theorem k_marks {c : Nat → Nat} {g s0 ns b : Nat} {bm : Bool} {M : Mem} {G z : Nat → Nat} (hg : g < 2048) (h : SD c g bm s0 M G ns z (some b)) : ∃ M' P, pl_markPlans M = some M' ∧ SD c g bm s0 M' G ns z (some b) ∧ MKD c g bm G b ns z 0 P M' ∧ (∀ r j, r < 80 → ¬ (r = 75 ∧ j = 10) → M' r j = M r j) := by
  obtain ⟨M1, e1, e2, e3⟩ := cl_L (K := fun M3 => pl_markPlans_L29 (fun M11 => some M11) FU (((M3 82 6) - (nI 1))) M3) 2048 0 FU M (by omega) (by rw [FUe]; omega)
  have hS1 : SD c g bm s0 M1 G ns z (some b) := SD_cong h (MV_fr h.2.2.1 fun r i hr => e3 r i (by omega)) fun r i hr => e3 r i (by omega)
  have hns := h.2.2.2.2.1
  obtain ⟨M2, P2, f1, f2, f3, f4⟩ := mk_L hg (K := fun M11 => some M11) ns FU M1 (fun _ => false) (by rw [FUe]; omega) (Nat.le_refl _) hS1 ⟨fun u hu => e2 u (Nat.zero_le _) hu, fun u hu => Bool.noConfusion hu, fun j h1 h2 => absurd h2 (by omega)⟩
  refine ⟨M2, P2, ?_, f2, f3, fun r j hr hr2 => by rw [f4 r j hr hr2, e3 r j (by omega)]⟩
  have h6 : M1 82 6 = nI ns := hS1.2.1.1
  unfold pl_markPlans
  refine Eq.trans e1 ?_
  rw [h6]
  exact f1
theorem k_frst {c : Nat → Nat} {g s0 ns b s : Nat} {bm : Bool} {M : Mem} {G z : Nat → Nat} {P : Nat → Bool} (h : SD c g bm s0 M G ns z (some b)) (hP : MKD c g bm G b ns z 0 P M) (ht : TG c g bm G b s) (hgs : ¬ gl g s) : ∃ k M', pl_firstOnPlan (nI s) M = some (nI k, M') ∧ vl c s k ∧ frst c g bm s k ∧ TG c g bm G b (nx s k) ∧ SD c g bm s0 M' G ns z (some b) ∧ MKD c g bm G b ns z 0 P M' ∧ (∀ r j, r < 80 → ¬ (r = 75 ∧ j = 10) → M' r j = M r j) := by
  obtain ⟨h83, hSM, hV, ⟨a2, a3, a4, a5, a7, a8, a9, a10, a11, b0, b1⟩, hns, hdone⟩ := id h
  have hw := hV.2.2
  have hle := TG_le ht
  have hs := a3 s ht.1
  have h6 := a8 s ht.1
  have h7 : 282625 * ns ≤ 282625 * 2048 := Nat.mul_le_mul_left _ hns
  obtain ⟨i, hi, ez⟩ := hdone s ht.1 fun b' e => by injection e with e; omega
  have hP1 : MKD c g bm G b ns z (i + 1) P M := ⟨hP.1, hP.2.1, fun j _ h2 h3 => hP.2.2 j (Nat.zero_le _) h2 h3⟩
  have hK : ∀ k, vl c s k → (MKP P c g bm G b s k ↔ TGk c g bm G b s k) := fun k hv => by
    have := MKD_k h hP1 hi k (by rw [ez]; exact hv)
    rw [ez] at this
    exact this
  obtain ⟨M6, f1, f2, f3⟩ := k_first (g := g) (b := b) (bm := bm) (G := G) (P := P) hV hs hSM.2.2.2.2.1 h83 a2 (by omega) hP.1
  rcases f3 with ⟨k, k1, k2, k3, k4⟩ | ⟨k3, _⟩
  · have hk := (hK k k1).mp k2
    have hgo := (TG_go h ht.1 k1 hk).2
    refine ⟨k, M6, k4, k1, ⟨hgo, fun j hj ⟨a, m, x, y, o1, o2, o3, o4, o5⟩ => k3 j hj o2 ((hK j o2).mpr (TG_back h ht hgs o2 o1 o3 o4 o5))⟩, hk.1, SD_cong h f1 fun r j hr => f2 r j (by omega) (by omega) (by omega), ⟨fun u hu => by rw [f2 _ _ (by omega) (by omega) (by omega)]; exact hP.1 u hu, hP.2.1, hP.2.2⟩, fun r j hr hr2 => f2 r j hr2 (by omega) (by omega)⟩
  · obtain ⟨k, hv, hk⟩ := TG_ex h ht hgs
    exact absurd ((hK k hv).mpr hk) (k3 k hv)
theorem opt_b {c : Nat → Nat} {g s k a m x y : Nat} {bm : Bool} (hw : WR c) (hs : sts c s) (h : frst c g bm s k) (ho : opt c g bm s a m) : vl c s k ∧ ∃ x y, opt c g bm (nx s k) x y ∧ a = x + tk c s k ∧ m = y + 1 := by
  obtain ⟨a', m', x, y, o1, o2, o3, o4, o5⟩ := h.1
  obtain ⟨e1, e2⟩ := opt_one hw hs ho o1
  exact ⟨o2, x, y, o3, by omega, by omega⟩
/-- the reference's first move -/
def mvc (c : Nat → Nat) (A B : Nat → Nat) (s j : Nat) : Prop := vl c s j ∧ B (nx s j) < 10000000 ∧ A (nx s j) + tk c s j = A s ∧ B (nx s j) + 1 = B s
theorem rm_L {c : Nat → Nat} {T g s k a m : Nat} {bm : Bool} {A B : Nat → Nat} (hw : WR c) (hb : WB T c) (hT : T ≤ 520) (hs : sts c s) (ho : opt c g bm s a m) (hf : frst c g bm s k) (hF : optF c g bm A B) {K : Mem → Option (Int32 × Mem)} : ∀ d j fu (Y : Mem), j + d = k → d < fu → EY Y c → BM c Y A B → ∃ Y', md_moveFrom_L2 (nI s) K fu (nI j) Y = some (nI k, Y') ∧ EY Y' c ∧ BM c Y' A B ∧ (∀ r i, ¬ (r = 0 ∧ i = 17) → Y' r i = Y r i) := by
  have hn := WR_n hw
  have s2 := sts_2048 hw hs
  obtain ⟨hvk, x, y, on, ea, em⟩ := opt_b (x := 0) (y := 0) hw hs hf ho
  have bs : B s < 10000000 ∧ A s < 10000000 ∧ opt c g bm s (A s) (B s) := (hF s hs).resolve_left fun q => q.1 _ _ ho.1
  obtain ⟨eA, eB⟩ := opt_one hw hs bs.2.2 ho
  have try_ : ∀ j fu (Y : Mem), j < 1024 + c 1 → EY Y c → BM c Y A B → (j < 1024 → sd j (al c) = 0) → ∃ Y', EY Y' c ∧ BM c Y' A B ∧ (∀ r i, ¬ (r = 0 ∧ i = 17) → Y' r i = Y r i) ∧ (mvc c A B s j → md_moveFrom_J37 (nI s) (fun a2 aM => md_moveFrom_L2 (nI s) K fu a2 aM) K (nI j) Y = some (nI j, Y')) ∧ (¬ mvc c A B s j → md_moveFrom_J37 (nI s) (fun a2 aM => md_moveFrom_L2 (nI s) K fu a2 aM) K (nI j) Y = md_moveFrom_L2 (nI s) K fu (nI (j + 1)) Y') := fun j fu Y hj hE hM _ => by
    have hE2 : EY (rY Y (tk c s j)) c := EY_fr hE fun i => by
      unfold rY
      split
      · rfl
      · exact wr_ne (by omega)
    have fr2 : ∀ r i, ¬ (r = 0 ∧ i = 17) → rY Y (tk c s j) r i = Y r i := fun r i hr => by
      unfold rY
      split
      · rfl
      · exact wr_ne hr
    have hM2 : BM c (rY Y (tk c s j)) A B := fun u hu => by
      rw [fr2 _ _ (by omega), fr2 _ _ (by omega)]
      exact hM u hu
    refine ⟨rY Y (tk c s j), hE2, hM2, fr2, ?_⟩
    unfold mvc md_moveFrom_J37
    rw [r_behind hE hw hb hT hs hj]
    unfold bnd2 nxI
    dsimp only
    by_cases q0 : tk c s j = 0
    · refine ⟨fun e => absurd q0 e.1.2, fun _ => ?_⟩
      rw [if_pos q0, if_pos rfl, n_lit, n_add]
    · have hv : vl c s j := ⟨hj, q0⟩
      have hu := nx_lt hw hs hv
      have u2 := sts_2048 hw hu
      have ht := tk_le hw s j
      have hrY : rY Y (tk c s j) 0 17 = nI (tk c s j) := by
        unfold rY
        rw [if_neg q0, wr_eq]
      rw [if_neg q0, if_neg (nI_nm (by omega))]
      simp (disch := omega) only [n_lit, chk_in, n_cl, hM2 _ hu, hM2 _ hs, hrY, n_add]
      rcases hF _ hu with ⟨_, q1⟩ | ⟨q1, q2, _⟩
      · refine ⟨fun e => by omega, fun _ => ?_⟩
        rw [if_neg (show ¬ nI (B (nx s j) + 1) = nI (B s) by rw [n_eq (by omega) (by omega)]; omega)]
        split <;> rfl
      · simp (disch := omega) only [n_eq]
        refine ⟨fun e => by rw [if_pos e.2.2.1, if_pos e.2.2.2], fun e => ?_⟩
        by_cases e1 : A (nx s j) + tk c s j = A s
        · rw [if_pos e1]
          by_cases e2 : B (nx s j) + 1 = B s
          · exact absurd ⟨hv, q1, e1, e2⟩ e
          · rw [if_neg e2]
        · rw [if_neg e1]
  intro d
  induction d with
  | zero =>
    intro j fu Y hj hfu hE hM
    obtain ⟨fu, rfl⟩ : ∃ f, fu = f + 1 := ⟨fu - 1, by omega⟩
    have hjk : j = k := by omega
    subst hjk
    have hv1 := hvk.1
    have hsub : j < 1024 → sd j (al c) = 0 := fun q => sd_0.mpr fun i hi => by
      have h1 := sub_lt (vl_sub hvk q) (here_lt (bk := s % 2) hw hs)
      rw [al_b, decide_eq_true_iff]
      refine Classical.byContradiction fun e => ?_
      rw [tb_big h1 (by omega)] at hi
      exact Bool.noConfusion hi
    obtain ⟨Y', t1, t2, t3, t4⟩ := try_ j fu Y hv1 hE hM hsub
    have hn2 := nx_lt hw hs hvk
    have bn : B (nx s j) < 10000000 ∧ A (nx s j) < 10000000 ∧ opt c g bm (nx s j) (A (nx s j)) (B (nx s j)) := (hF _ hn2).resolve_left fun q => q.1 _ _ on.1
    obtain ⟨fA, fB⟩ := opt_one hw hn2 bn.2.2 on
    have t4 := t4.1 ⟨hvk, bn.1, by omega, by omega⟩
    refine ⟨Y', ?_, t1, t2, t3⟩
    rw [md_moveFrom_L2, EY_n hE (i := 1) (by omega) (by omega), r_all hE hw]
    simp (disch := omega) only [n_lit, n_add, n_lt, if_pos, bind_s, n_sd]
    by_cases q : j < 1024
    · rw [if_pos q, hsub q, if_pos rfl]
      exact t4
    · rw [if_neg q]
      exact t4
  | succ d ih =>
    intro j fu Y hj hfu hE hM
    obtain ⟨fu, rfl⟩ : ∃ f, fu = f + 1 := ⟨fu - 1, by omega⟩
    have hv1 := hvk.1
    have stp : md_moveFrom_L2 (nI s) K (fu + 1) (nI j) Y = (if j < 1024 then (if nI (sd j (al c)) = nI 0 then md_moveFrom_J37 (nI s) (fun a2 aM => md_moveFrom_L2 (nI s) K fu a2 aM) K (nI j) Y else md_moveFrom_L2 (nI s) K fu (nI (j + 1)) Y) else md_moveFrom_J37 (nI s) (fun a2 aM => md_moveFrom_L2 (nI s) K fu a2 aM) K (nI j) Y) := by
      rw [md_moveFrom_L2, EY_n hE (i := 1) (by omega) (by omega), r_all hE hw]
      simp (disch := omega) only [n_lit, n_add, n_lt, if_pos, bind_s, n_sd]
    rw [stp]
    have goes : ∀ (hs' : j < 1024 → sd j (al c) = 0), ∃ Y', md_moveFrom_J37 (nI s) (fun a2 aM => md_moveFrom_L2 (nI s) K fu a2 aM) K (nI j) Y = some (nI k, Y') ∧ EY Y' c ∧ BM c Y' A B ∧ (∀ r i, ¬ (r = 0 ∧ i = 17) → Y' r i = Y r i) := fun hs' => by
      obtain ⟨Y1, t1, t2, t3, t4⟩ := try_ j fu Y (by omega) hE hM hs'
      have t4 := t4.2 (fun e => hf.2 j (by omega) (by
        have hu := nx_lt hw hs e.1
        have bn : B (nx s j) < 10000000 ∧ A (nx s j) < 10000000 ∧ opt c g bm (nx s j) (A (nx s j)) (B (nx s j)) := (hF _ hu).resolve_left fun q => by have := q.2; have := e.2.1; omega
        exact ⟨A s, B s, A (nx s j), B (nx s j), bs.2.2, e.1, bn.2.2, by have := e.2.2.1; omega, by have := e.2.2.2; omega⟩))
      obtain ⟨Y', i1, i2, i3, i4⟩ := ih (j + 1) fu Y1 (by omega) (by omega) t1 t2
      exact ⟨Y', t4.trans i1, i2, i3, fun r i hr => by rw [i4 r i hr, t3 r i hr]⟩
    by_cases q : j < 1024
    · rw [if_pos q]
      by_cases q2 : nI (sd j (al c)) = nI 0
      · rw [if_pos q2]
        have hlt : sd j (al c) < 4294967296 := sd_lt (n := 32) _ (by omega)
        rw [n_eq hlt (by omega)] at q2
        exact goes fun _ => q2
      · rw [if_neg q2]
        exact ih (j + 1) fu Y (by omega) (by omega) hE hM
    · rw [if_neg q]
      exact goes fun e => absurd e q
theorem r_first {Y : Mem} {c : Nat → Nat} {T g s k a m : Nat} {bm : Bool} {A B : Nat → Nat} (hE : EY Y c) (hM : BM c Y A B) (hw : WR c) (hb : WB T c) (hT : T ≤ 520) (hs : sts c s) (ho : opt c g bm s a m) (hf : frst c g bm s k) (hF : optF c g bm A B) : ∃ Y', md_moveFrom (nI s) Y = some (nI k, Y') ∧ EY Y' c ∧ BM c Y' A B ∧ (∀ r i, ¬ (r = 0 ∧ i = 17) → Y' r i = Y r i) := by
  have hn := WR_n hw
  have hv := (opt_b (x := 0) (y := 0) hw hs hf ho).1.1
  exact rm_L hw hb hT hs ho hf hF (K := fun M5 => some ((-1 : Int32), M5)) k 0 FU Y (by omega) (by rw [FUe]; omega) hE hM
