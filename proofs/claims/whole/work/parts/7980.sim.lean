/-! a river is read: both at the same place -/
theorem bnd_s {γ : Type} (a : Int32) (x : Mem) (f : Int32 → Mem → Option γ) : bnd2 (some (a, x)) f = f a x := id rfl
def FrX (X X' : Mem) : Prop := ∀ r i, ¬ (14 ≤ r ∧ r < 22) → ¬ (r = 1 ∧ i = 6) → X' r i = X r i
def FrY (Y Y' : Mem) : Prop := ∀ r i, ¬ (r = 0 ∧ (i = 9 ∨ i = 10)) → ¬ (r = 1 ∧ i < 248) → Y' r i = Y r i
theorem FrX_rfl {X : Mem} : FrX X X := fun _ _ _ _ => rfl
theorem FrY_rfl {Y : Mem} : FrY Y Y := fun _ _ _ _ => rfl
theorem FrX_tr {A B D : Mem} (h : FrX A B) (h2 : FrX B D) : FrX A D := fun r i p q => (h2 r i p q).trans (h r i p q)
theorem FrY_tr {A B D : Mem} (h : FrY A B) (h2 : FrY B D) : FrY A D := fun r i p q => (h2 r i p q).trans (h r i p q)
def GS (X Y : Mem) (b : Nat → Nat) (e : Nat) (c : Nat → Nat) (a p : Nat) : Prop := TPo X b e p ∧ XRv 14 X c ∧ LTx Y b e ∧ EY Y c ∧ Y 0 10 = -1 ∧ Y 0 9 = nI a ∧ a ≤ e ∧ skp b e a = p ∧ WR c
def BS (Y : Mem) (e q : Nat) : Prop := Y 0 10 = nI q ∧ q ≤ e ∧ ∃ a, a ≤ e ∧ Y 0 9 = nI a
theorem BS_f {Y : Mem} {e q : Nat} (h : BS Y e q) (he : e ≤ 400) : ¬ Y 0 10 = -1 := by
  rw [h.1, show (-1 : Int32) = -nI 1 from rfl, n_ng (by have := h.2.1; omega) (by omega) (by omega)]
  exact id
theorem mvT_ne {X : Mem} {r i : Nat} (h : ¬ (r = 1 ∧ i = 6)) : mvT X r i = X r i := wr_ne h
theorem FrX_mv {X : Mem} : FrX X (mvT X) := fun r i _ h => mvT_ne h
theorem XR_mv {X : Mem} {c : Nat → Nat} (h : XRv 14 X c) : XRv 14 (mvT X) c := XR_cong h fun r i _ _ => mvT_ne (by omega)
theorem FrY_A {Y : Mem} {a : Nat} : FrY Y (setA Y a) := fun r i h _ => wr_ne (by omega)
theorem EY_A {Y : Mem} {c : Nat → Nat} {a : Nat} (h : EY Y c) : EY (setA Y a) c := EY_fr h fun i => wr_ne (by omega)
theorem FrY_B {Y : Mem} {a : Nat} {v : Int32} : FrY Y (wr (setA Y a) 0 10 v) := fun r i h _ => by
  unfold setA
  rw [wr_ne (by omega), wr_ne (by omega)]
theorem BS_B {Y : Mem} {e a p : Nat} (ha : a ≤ e) (hp : p ≤ e) : BS (wr (setA Y a) 0 10 (nI p)) e p := ⟨wr_eq, hp, a, ha, by unfold setA; rw [wr_ne (by omega), wr_eq]⟩
theorem setA_10 {Y : Mem} {a : Nat} : setA Y a 0 10 = Y 0 10 := wr_ne (by omega)
theorem setA_9 {Y : Mem} {a : Nat} : setA Y a 0 9 = nI a := wr_eq
theorem GS_skip {X Y : Mem} {b : Nat → Nat} {e a p : Nat} {c : Nat → Nat} (h : GS X Y b e c a p) : md_skip Y = some (setA Y p) ∧ GS X (setA Y p) b e c p p := by
  obtain ⟨h1, h2, h3, h4, h5, h6, h7, h8, h9⟩ := h
  have he := h3.2.1
  have hp := TPo_le h1
  refine ⟨?_, h1, h2, LTx_A h3 _, EY_A h4, by rw [setA_10, h5], setA_9, hp, ?_, h9⟩
  · rw [r_skip h3 h6 (by omega), h8]
  · rw [← h8]
    exact skp_skp
theorem GS_next {X Y : Mem} {b : Nat → Nat} {e a p : Nat} {c : Nat → Nat} (h : GS X Y b e c a p) (hp : p < e) : tp_next X = some (mvT X) ∧ GS (mvT X) (setA Y (beh b e p)) b e c (beh b e p) (nxt b e p) := by
  obtain ⟨h1, h2, h3, h4, h5, h6, h7, h8, h9⟩ := h
  obtain ⟨n1, n2⟩ := k_next h1 hp
  exact ⟨n1, n2, XR_mv h2, LTx_A h3 _, EY_A h4, by rw [setA_10, h5], setA_9, (beh_gt hp).2, rfl, h9⟩
theorem KD_lt {b : Nat → Nat} {e p : Nat} (h : 1 < KD b e p) : p < e := Classical.byContradiction fun q => by
  rw [KD_end (by omega)] at h
  omega
theorem KD_1 {b : Nat → Nat} {e p : Nat} (h : KD b e p = 1) : e ≤ p := Classical.byContradiction fun q => by
  have q : p < e := by omega
  unfold KD at h
  rw [if_pos q] at h
  by_cases h2 : dgB (b p) = true
  · rw [if_pos h2] at h
    split at h <;> omega
  · rw [if_neg h2] at h
    unfold nmC at h
    by_cases h3 : ff (fun i => mtB b p (beh b e p) (stx i)) 0 29 < 29
    · rw [if_pos h3] at h
      have e1 : ff (fun i => mtB b p (beh b e p) (stx i)) 0 29 = 0 := by omega
      rcases ff_spec (p := fun i => mtB b p (beh b e p) (stx i)) (m := 29) (k := 0) with ⟨_, b1, _⟩ | ⟨a, _⟩
      · rw [e1] at b1
        unfold mtB at b1
        rw [Bool.and_eq_true, decide_eq_true_iff] at b1
        have h4 := (beh_gt (b := b) q).1
        have h5 : slen (stx 0) = 0 := by decide
        omega
      · omega
    · rw [if_neg h3] at h
      omega
/-- a number, in both -/
theorem num_sim {X Y : Mem} {b : Nat → Nat} {e a p lo H : Nat} {c : Nat → Nat} {hi : Int32} (h : GS X Y b e c a p) (hlo : lo ≤ 1000) (hH : 0 < H ∧ H ≤ 1000) (hh : hi = nI (H - 1)) :
    (∃ v, lo ≤ v ∧ v < H ∧ rr_readNumber (nI lo) hi X = some (nI v, mvT X) ∧ md_figures (nI lo) hi Y = some (nI v, setA Y (beh b e p)) ∧ GS (mvT X) (setA Y (beh b e p)) b e c (beh b e p) (nxt b e p)) ∨
    (rr_readNumber (nI lo) hi X = some (-1, X) ∧ ∃ v Y', v ≤ 9999 ∧ md_figures (nI lo) hi Y = some (nI v, Y') ∧ BS Y' e p ∧ FrY Y Y') := by
  subst hh
  obtain ⟨h1, h2, h3, h4, h5, h6, h7, h8, h9⟩ := id h
  have hp := TPo_le h1
  have hl := KD_le b e p
  have ht := k_thing h1
  obtain ⟨nv, hn1, hn2⟩ := k_number h1
  obtain ⟨f1, f2⟩ := r_figures (lo := lo) (H := H) (hi := nI (H - 1)) h3 h6 h7 h5 hlo (fun v hv => by rw [n_lt (by omega) (by omega)]; omega)
  rw [h8] at f1 f2
  have cl : rr_readNumber (nI lo) (nI (H - 1)) X = if KD b e p = 2 then (if nv < nI lo then some ((-1 : Int32), X) else (if nI (H - 1) < nv then some ((-1 : Int32), X) else (tp_next X).bind fun M3 => some (nv, M3))) else some (-1, X) := by
    unfold rr_readNumber
    rw [hn1, bind_s, ht, bind_s, show (2 : Int32) = nI 2 from rfl, teq_n (by omega) (by omega)]
    by_cases q : KD b e p = 2
    · rw [if_pos q, decide_eq_true q, if_pos rfl]
    · rw [if_neg q, decide_eq_false q, if_neg (by decide)]
  by_cases q : KD b e p = 2 ∧ lo ≤ nvl b p (beh b e p) ∧ nvl b p (beh b e p) < H
  · obtain ⟨q1, q2, q3⟩ := q
    obtain ⟨n1, n2⟩ := GS_next h (KD_lt (b := b) (e := e) (p := p) (by omega))
    refine Or.inl ⟨_, q2, q3, ?_, f1 q1 q2 q3, n2⟩
    rw [cl, if_pos q1, hn2 q1, if_neg (by rw [n_lt (by omega) (by omega)]; omega), if_neg (by rw [n_lt (by omega) (by omega)]; omega), n1, bind_s]
  · obtain ⟨v, a', g1, g2, g3⟩ := f2 q
    refine Or.inr ⟨?_, v, _, g1, g3, BS_B g2 hp, FrY_B⟩
    rw [cl]
    by_cases q1 : KD b e p = 2
    · have hv := nvl_le q1
      rw [if_pos q1, hn2 q1]
      by_cases q2 : nvl b p (beh b e p) < lo
      · rw [if_pos (by rw [n_lt (by omega) (by omega)]; exact q2)]
      · rw [if_neg (by rw [n_lt (by omega) (by omega)]; exact q2), if_pos (by rw [n_lt (by omega) (by omega)]; omega)]
    · rw [if_neg q1]
/-- another one, in both -/
theorem oth_sim {X Y : Mem} {b : Nat → Nat} {e a p m : Nat} {c : Nat → Nat} {p1 p2 : Int32} (h : GS X Y b e c a p) (hm : ∀ v, v < 10 → (m.testBit v = true ↔ nI v = p1 ∨ nI v = p2)) :
    (∃ v, v < c 1 ∧ m.testBit v = false ∧ rr_readOther (nI m) X = some (nI v, mvT X) ∧ md_being p1 p2 Y = some (nI v, setA Y (beh b e p)) ∧ GS (mvT X) (setA Y (beh b e p)) b e c (beh b e p) (nxt b e p)) ∨
    (rr_readOther (nI m) X = some (-1, X) ∧ ∃ v Y', v ≤ 9999 ∧ md_being p1 p2 Y = some (nI v, Y') ∧ BS Y' e p ∧ FrY Y Y') := by
  obtain ⟨s1, hs⟩ := GS_skip h
  obtain ⟨h1, h2, h3, h4, h5, h6, h7, h8, h9⟩ := id hs
  have h10 := WR_n h9
  have hl := KD_le b e p
  have ht := k_thing h1
  obtain ⟨nv, hn1, hn2⟩ := k_number h1
  have e1 : (setA Y p) 1 1 = nI (c 1) := EY_n h4 (i := 1) (by omega) (by omega)
  have eA : ∀ q, setA (setA Y p) q = setA Y q := fun q => wr_wr
  have hhi : ∀ v, v ≤ 9999 → ((nI (c 1) - nI 1 < nI v) ↔ c 1 ≤ v) := fun v hv => by
    by_cases q : c 1 = 0
    · rw [q]
      have : nI 0 - nI 1 < nI v := by
        rw [Int32.lt_iff_toInt_lt, n_toI (by omega), show (nI 0 - nI 1).toInt = -1 from rfl]
        omega
      exact ⟨fun _ => by omega, fun _ => this⟩
    · rw [n_sub (by omega), n_lt (by omega) (by omega)]
      omega
  obtain ⟨f1, f2⟩ := r_figures (lo := 0) (H := c 1) (hi := nI (c 1) - nI 1) h3 h6 h7 h5 (by omega) hhi
  rw [h8] at f1 f2
  have rf0 : md_being p1 p2 Y = bnd2 (md_figures (nI 0) (nI (c 1) - nI 1) (setA Y p)) fun v3 M2 => (if (M2 0 10) = (-1 : Int32) then (if v3 = p1 then (md_wrong (nI p) M2).bind fun M4 => some (v3, M4) else (if v3 = p2 then (md_wrong (nI p) M2).bind fun M5 => some (v3, M5) else some (v3, M2))) else some (v3, M2)) := by
    unfold md_being
    rw [h.2.2.2.2.1, if_pos rfl, s1, bind_s, e1, h6]
    rfl
  have cl : rr_readOther (nI m) X = if KD b e p = 2 then (rv_hasBeing 14 nv X).bind (fun v3 => if v3 = 0 then some ((-1 : Int32), X) else (tp_number X).bind fun v4 => (if ((nI m >>> (v4 &&& 31)) &&& (1 : Int32)) = 0 then bnd2 (rr_readNumber ((0 : Int32)) ((9 : Int32)) X) fun v6 M5 => some (v6, M5) else some ((-1 : Int32), X))) else some (-1, X) := by
    unfold rr_readOther
    rw [ht, bind_s, show (2 : Int32) = nI 2 from rfl, teq_n (by omega) (by omega), hn1, bind_s]
    by_cases q : KD b e p = 2
    · rw [if_pos q, decide_eq_true q, if_pos rfl]
    · rw [if_neg q, decide_eq_false q, if_neg (by decide)]
  have hB : KD b e p = 2 → rv_hasBeing 14 nv X = some (bI (decide (nvl b p (beh b e p) < c 1))) := fun q => by
    have hv := nvl_le q
    rw [hn2 q]
    unfold rv_hasBeing
    rw [h2.2.1, if_neg (by rw [show (0 : Int32) = nI 0 from rfl, n_lt (by omega) (by omega)]; omega)]
    by_cases q2 : nvl b p (beh b e p) < c 1
    · rw [if_pos (by rw [n_lt (by omega) (by omega)]; exact q2), decide_eq_true q2]
      rfl
    · rw [if_neg (by rw [n_lt (by omega) (by omega)]; exact q2), decide_eq_false q2]
      rfl
  by_cases q : KD b e p = 2 ∧ nvl b p (beh b e p) < c 1
  · obtain ⟨q1, q3⟩ := q
    have hv := nvl_le q1
    have g := f1 q1 (Nat.zero_le _) q3
    rw [eA] at g
    have hm := hm (nvl b p (beh b e p)) (by omega)
    have cl2 : rr_readOther (nI m) X = if m.testBit (nvl b p (beh b e p)) = true then some (-1, X) else bnd2 (rr_readNumber ((0 : Int32)) ((9 : Int32)) X) fun v6 M5 => some (v6, M5) := by
      rw [cl, if_pos q1, hB q1, bind_s, ifb_t (decide_eq_true q3), hn1, bind_s, hn2 q1]
      simp only [n_lit]
      rw [n_m31 (by omega), n_bit (by omega)]
      unfold tb
      by_cases q4 : m.testBit (nvl b p (beh b e p)) = true
      · rw [if_pos q4, if_pos q4, if_neg (by decide)]
      · rw [if_neg q4, if_neg q4, if_pos rfl]
    by_cases q4 : m.testBit (nvl b p (beh b e p)) = true
    · rw [if_pos q4] at cl2
      refine Or.inr ⟨cl2, nvl b p (beh b e p), wr (setA Y (beh b e p)) 0 10 (nI p), by omega, ?_, BS_B ((beh_gt (KD_lt (b := b) (e := e) (p := p) (by omega))).2) (TPo_le h1), FrY_B⟩
      rw [rf0, g, bnd_s]
      rw [setA_10, h.2.2.2.2.1, if_pos rfl]
      have w : md_wrong (nI p) (setA Y (beh b e p)) = some (wr (setA Y (beh b e p)) 0 10 (nI p)) := r_wrong _ (by rw [setA_10, h.2.2.2.2.1])
      rcases hm.mp q4 with q5 | q5
      · rw [if_pos q5]
        rw [w, bind_s]
      · by_cases q6 : nI (nvl b p (beh b e p)) = p1
        · rw [if_pos q6]
          rw [w, bind_s]
        · rw [if_neg q6, if_pos q5]
          rw [w, bind_s]
    · rw [if_neg q4] at cl2
      refine Or.inl ⟨_, q3, Bool.eq_false_iff.mpr q4, ?_, ?_, ?_⟩
      · rcases num_sim hs (lo := 0) (H := 10) (hi := 9) (by omega) (by omega) rfl with ⟨v, _, _, n1, n2, n3⟩ | ⟨_, v, Y', _, n2, n3, _⟩
        · rw [cl2]
          have f3 := r_figures (lo := 0) (H := 10) (hi := 9) h3 h6 h7 h5 (by omega) (fun v hv => by rw [show (9 : Int32) = nI 9 from rfl, n_lt (by omega) (by omega)]; omega)
          rw [h8] at f3
          have f4 := f3.1 q1 (Nat.zero_le _) (by omega)
          rw [n2, Option.some.injEq, Prod.mk.injEq] at f4
          rw [f4.1] at n1
          rw [show rr_readNumber 0 9 X = some (nI (nvl b p (beh b e p)), mvT X) from n1]
          rfl
        · exfalso
          have f3 := r_figures (lo := 0) (H := 10) (hi := 9) h3 h6 h7 h5 (by omega) (fun v hv => by rw [show (9 : Int32) = nI 9 from rfl, n_lt (by omega) (by omega)]; omega)
          rw [h8] at f3
          have f4 := f3.1 q1 (Nat.zero_le _) (by omega)
          rw [n2, Option.some.injEq, Prod.mk.injEq] at f4
          have := BS_f n3 h3.2.1
          rw [f4.2, setA_10, h5] at this
          exact this rfl
      · rw [rf0, g, bnd_s]
        rw [setA_10, h.2.2.2.2.1, if_pos rfl, if_neg (fun q5 => q4 (hm.mpr (Or.inl q5))), if_neg (fun q5 => q4 (hm.mpr (Or.inr q5)))]
      · exact (GS_next h (KD_lt (b := b) (e := e) (p := p) (by omega))).2
  · obtain ⟨v, a', g1, g2, g3⟩ := f2 (fun q2 => q ⟨q2.1, q2.2.2⟩)
    rw [eA] at g3
    refine Or.inr ⟨?_, v, _, g1, ?_, BS_B g2 (TPo_le h1), FrY_B⟩
    · rw [cl]
      by_cases q1 : KD b e p = 2
      · rw [if_pos q1, hB q1, bind_s, ifb_f (decide_eq_false (fun q2 => q ⟨q1, q2⟩))]
      · rw [if_neg q1]
    · rw [rf0, g3, bnd_s]
      have := BS_f (BS_B (Y := Y) g2 (TPo_le h1)) h3.2.1
      rw [if_neg this]
