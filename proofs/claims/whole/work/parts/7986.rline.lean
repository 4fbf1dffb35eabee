/-! a river is read: any line -/
theorem line_sim {X Y : Mem} {b : Nat → Nat} {e a p : Nat} {c : Nat → Nat} (h : GS X Y b e c a p) : LRes X Y b e c (rr_readLine X) (md_riverLine Y) := by
  have he := h.2.2.1.2.1
  have hl := KD_le b e p
  have ht := k_thing h.1
  obtain ⟨s1, hs⟩ := GS_skip h
  have eA : setA (setA Y p) p = setA Y p := wr_wr
  have eB : ∀ q, setA (setA Y p) q = setA Y q := fun q => wr_wr
  have h9 : setA Y p 0 9 = nI p := wr_eq
  have no : ∀ {w k : Nat}, WPr w k → ¬ KD b e p = k → md_has w (setA Y p) = some (0, setA Y p) := fun hw hk => by
    have := has_no hs hw hk
    rw [eA] at this
    exact this
  have yes : ∀ {w k : Nat}, WPr w k → KD b e p = k → md_has w (setA Y p) = some (1, setA Y (beh b e p)) := fun hw hk => by
    have := has_yes hs hw hk
    rw [eB] at this
    exact this
  have i1 : ¬ (1 : Int32) = 0 := by decide
  have tq : ∀ w, w < 30 → teq (nI (KD b e p)) (nI w) = decide (KD b e p = w) := fun w hw => teq_n (by omega) hw
  unfold rr_readLine rr_kindOf md_riverLine
  rw [ht, bind_s, s1, bind_s, h9, show (4 : Int32) = nI 4 from rfl, show (5 : Int32) = nI 5 from rfl, show (6 : Int32) = nI 6 from rfl, show (7 : Int32) = nI 7 from rfl, show (13 : Int32) = nI 13 from rfl, show (15 : Int32) = nI 15 from rfl, show (12 : Int32) = nI 12 from rfl, tq 4 (by omega), tq 5 (by omega), tq 6 (by omega), tq 7 (by omega), tq 13 (by omega), tq 15 (by omega), tq 12 (by omega)]
  by_cases q4 : KD b e p = 4
  · rw [if_pos (decide_eq_true q4), bind_s, if_neg (by decide), yes W19 q4, bnd_s, if_neg i1]
    exact LRes_c (LRes_b (being_sim h (k := 0) (by omega) q4))
  rw [if_neg (by rw [decide_eq_false q4]; decide), no W19 q4, bnd_s, if_pos rfl]
  by_cases q5 : KD b e p = 5
  · rw [if_pos (decide_eq_true q5), bind_s, if_neg (by decide), yes W21 q5, bnd_s, if_neg i1]
    exact LRes_c (LRes_b (being_sim h (k := 1) (by omega) q5))
  rw [if_neg (by rw [decide_eq_false q5]; decide), no W21 q5, bnd_s, if_pos rfl]
  by_cases q6 : KD b e p = 6
  · rw [if_pos (decide_eq_true q6), bind_s, if_neg (by decide), yes W22 q6, bnd_s, if_neg i1]
    exact LRes_c (LRes_b (being_sim h (k := 2) (by omega) q6))
  rw [if_neg (by rw [decide_eq_false q6]; decide), no W22 q6, bnd_s, if_pos rfl]
  by_cases q7 : KD b e p = 7
  · rw [if_pos (decide_eq_true q7), bind_s, if_neg (by decide), yes W23 q7, bnd_s, if_neg i1]
    exact LRes_c (LRes_b (being_sim h (k := 3) (by omega) q7))
  rw [if_neg (by rw [decide_eq_false q7]; decide), no W23 q7, bnd_s, if_pos rfl, bind_s, if_pos rfl]
  by_cases q13 : KD b e p = 13
  · rw [if_pos (decide_eq_true q13), no W24 (by omega), bnd_s, if_pos rfl, no W25 (by omega), bnd_s, if_pos rfl, no W26 (by omega), bnd_s, if_pos rfl, no W27 (by omega), bnd_s, if_pos rfl, yes W28 q13, bnd_s, if_neg i1]
    exact LRes_c (apart_sim h q13)
  rw [if_neg (by rw [decide_eq_false q13]; decide)]
  by_cases q15 : KD b e p = 15
  · rw [if_pos (decide_eq_true q15), no W24 (by omega), bnd_s, if_pos rfl, no W25 (by omega), bnd_s, if_pos rfl, no W26 (by omega), bnd_s, if_pos rfl, no W27 (by omega), bnd_s, if_pos rfl, no W28 q13, bnd_s, if_pos rfl, yes W30 q15, bnd_s, if_neg i1]
    exact LRes_c (with_sim h q15)
  rw [if_neg (by rw [decide_eq_false q15]; decide)]
  by_cases q12 : KD b e p = 12
  · rw [if_pos (decide_eq_true q12), no W24 (by omega), bnd_s, if_pos rfl, no W25 (by omega), bnd_s, if_pos rfl, no W26 (by omega), bnd_s, if_pos rfl, yes W27 q12, bnd_s, if_neg i1]
    exact LRes_c (strm_sim h q12)
  rw [if_neg (by rw [decide_eq_false q12]; decide)]
  refine LRes_c ?_
  have hw := h.2.2.2.2.2.2.2.2
  unfold rr_readMeasure rr_readMeasure_J12 rr_readMeasure_J25 rr_readMeasure_J43
  rw [show (9 : Int32) = nI 9 from rfl, show (10 : Int32) = nI 10 from rfl, show (11 : Int32) = nI 11 from rfl, tq 9 (by omega), tq 10 (by omega), tq 11 (by omega)]
  by_cases q9 : KD b e p = 9
  · obtain ⟨g1, g2⟩ := GS_next h (KD_lt (b := b) (e := e) (p := p) (by omega))
    have := mes_sim (p1 := nI (KD b e p)) g2 (lo := 1) (H := 1000) (j := 6) (hi := 999) (by omega) (by omega) rfl (by omega) 1 0 (Or.inl ⟨rfl, rfl⟩) (fun v h1 h2 => WR_m hw (by omega) (fun _ => by omega) (fun h => by omega) (fun h => by omega))
    rw [if_pos (decide_eq_true q9), if_neg (by rw [decide_eq_false (by omega)]; decide), if_neg i1, g1, bind_s, if_neg i1, yes W24 q9, bnd_s, if_neg i1]
    exact LRes_tr FrX_mv FrY_A this
  rw [if_neg (by rw [decide_eq_false q9]; decide), no W24 q9, bnd_s, if_pos rfl]
  by_cases q10 : KD b e p = 10
  · obtain ⟨g1, g2⟩ := GS_next h (KD_lt (b := b) (e := e) (p := p) (by omega))
    have := mes_sim (p1 := nI (KD b e p)) g2 (lo := 0) (H := 100) (j := 7) (hi := 99) (by omega) (by omega) rfl (by omega) 0 1 (Or.inr (Or.inl ⟨rfl, rfl, rfl⟩)) (fun v h1 h2 => WR_m hw (by omega) (fun h => by omega) (fun _ => by omega) (fun h => by omega))
    rw [if_pos (decide_eq_true q10), if_pos rfl, if_neg i1, g1, bind_s, if_pos rfl, if_neg i1, yes W25 q10, bnd_s, if_neg i1]
    exact LRes_tr FrX_mv FrY_A this
  rw [if_neg (by rw [decide_eq_false q10]; decide), if_pos rfl, if_pos rfl, no W25 q10, bnd_s, if_pos rfl]
  by_cases q11 : KD b e p = 11
  · obtain ⟨g1, g2⟩ := GS_next h (KD_lt (b := b) (e := e) (p := p) (by omega))
    have := mes_sim (p1 := nI (KD b e p)) g2 (lo := 1) (H := 61) (j := 8) (hi := 60) (by omega) (by omega) rfl (by omega) 0 0 (Or.inr (Or.inr ⟨rfl, rfl, rfl⟩)) (fun v h1 h2 => WR_m hw (by omega) (fun h => by omega) (fun h => by omega) (fun _ => by omega))
    rw [if_pos (decide_eq_true q11), g1, bind_s, if_pos rfl, if_pos rfl, yes W26 q11, bnd_s, if_neg i1]
    exact LRes_tr FrX_mv FrY_A this
  rw [if_neg (by rw [decide_eq_false q11]; decide), no W26 q11, bnd_s, if_pos rfl, no W27 q12, bnd_s, if_pos rfl, no W28 q13, bnd_s, if_pos rfl, no W30 q15, bnd_s, if_pos rfl, h9, r_wrong _ hs.2.2.2.2.1, bind_s]
  exact Or.inr ⟨X, _, p, rfl, rfl, h.1, BS_B (TPo_le h.1) (TPo_le h.1), FrX_rfl, FrY_B⟩
