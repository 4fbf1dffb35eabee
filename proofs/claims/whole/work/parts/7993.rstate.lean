/-! the rule: both at the same place -/
theorem W11 : WPr 11 16 := by unfold WPr; decide +kernel
theorem W12 : WPr 12 19 := by unfold WPr; decide +kernel
theorem W13 : WPr 13 20 := by unfold WPr; decide +kernel
theorem W14 : WPr 14 21 := by unfold WPr; decide +kernel
theorem W15 : WPr 15 22 := by unfold WPr; decide +kernel
theorem W16 : WPr 16 23 := by unfold WPr; decide +kernel
theorem W17 : WPr 17 18 := by unfold WPr; decide +kernel
theorem W18 : WPr 18 17 := by unfold WPr; decide +kernel
theorem S40 : SPr 40 25 := by unfold SPr; decide +kernel
theorem S41 : SPr 41 26 := by unfold SPr; decide +kernel
theorem S60 : SPr 60 27 := by unfold SPr; decide +kernel
theorem S62 : SPr 62 28 := by unfold SPr; decide +kernel
theorem S43 : SPr 43 29 := by unfold SPr; decide +kernel
def RS (Y : Mem) (b : Nat → Nat) (e a p d : Nat) : Prop := LTx Y b e ∧ Y 0 10 = -1 ∧ Y 0 9 = nI a ∧ a ≤ e ∧ skp b e a = p ∧ Y 0 11 = nI d
theorem sA_sA {Y : Mem} {a a' : Nat} : setA (setA Y a) a' = setA Y a' := wr_wr
theorem RS_p {Y : Mem} {b : Nat → Nat} {e a p d : Nat} (h : RS Y b e a p d) : a ≤ p ∧ p ≤ e ∧ skp b e p = p ∧ e ≤ 400 := by
  obtain ⟨h1, h2, h3, h4, h5, h6⟩ := h
  have := skp_bd (b := b) (e := e) (a := a)
  rw [h5] at this
  exact ⟨this.1, by omega, by rw [← h5]; exact skp_skp, h1.2.1⟩
theorem RS_A {Y : Mem} {b : Nat → Nat} {e a p d a' p' : Nat} (h : RS Y b e a p d) (h1 : a' ≤ e) (h2 : skp b e a' = p') : RS (setA Y a') b e a' p' d := ⟨LTx_A h.1 _, by rw [setA_10, h.2.1], setA_9, h1, h2, by unfold setA; rw [wr_ne (by omega), h.2.2.2.2.2]⟩
theorem RS_skip {Y : Mem} {b : Nat → Nat} {e a p d : Nat} (h : RS Y b e a p d) : md_skip Y = some (setA Y p) ∧ RS (setA Y p) b e p p d := by
  obtain ⟨a1, a2, a3, a4⟩ := RS_p h
  refine ⟨?_, RS_A h a2 a3⟩
  rw [r_skip h.1 h.2.2.1 (by omega), h.2.2.2.2.1]
theorem RS_hasY {Y : Mem} {b : Nat → Nat} {e a p d w k : Nat} (h : RS Y b e a p d) (hw : WPr w k) (hk : KD b e p = k) : md_has w Y = some (1, setA Y (beh b e p)) := by
  obtain ⟨a1, a2, a3, a4⟩ := RS_p h
  obtain ⟨k1, k2⟩ := has_KD (b := b) (e := e) (p := p) hw
  have h1 := k1.mpr hk
  have := r_has h.1 h.2.2.1 (by omega) hw.1 (by rw [hw.2.2.2.1]; exact (stx_word (k - 1) (by have := hw.2.2.1; omega) (by have := hw.2.1; omega)).1)
  rw [h.2.2.2.2.1, h1, if_pos rfl, (k2 h1).1] at this
  exact this
theorem RS_hasN {Y : Mem} {b : Nat → Nat} {e a p d w k : Nat} (h : RS Y b e a p d) (hw : WPr w k) (hk : ¬ KD b e p = k) : md_has w Y = some (0, setA Y p) := by
  obtain ⟨a1, a2, a3, a4⟩ := RS_p h
  obtain ⟨k1, k2⟩ := has_KD (b := b) (e := e) (p := p) hw
  have h1 : hasB b e p w = false := Bool.eq_false_iff.mpr fun q => hk (k1.mp q)
  have := r_has h.1 h.2.2.1 (by omega) hw.1 (by rw [hw.2.2.2.1]; exact (stx_word (k - 1) (by have := hw.2.2.1; omega) (by have := hw.2.1; omega)).1)
  rw [h.2.2.2.2.1, h1, if_neg (by decide)] at this
  exact this
theorem RS_sgnY {Y : Mem} {b : Nat → Nat} {e a p d ch k : Nat} (h : RS Y b e a p d) (hs : SPr ch k) (hc : ch ≤ 255) (hk : KD b e p = k) : md_isSign (nI ch) Y = some (1, setA Y p) ∧ beh b e p = p + 1 ∧ p < e := by
  obtain ⟨a1, a2, a3, a4⟩ := RS_p h
  obtain ⟨k1, k2⟩ := sign_KD (b := b) (e := e) (p := p) hs
  have h1 := k1.mpr hk
  have := r_sign h.1 h.2.2.1 (by omega) hc
  rw [h.2.2.2.2.1, decide_eq_true h1] at this
  exact ⟨this, k2 h1, h1.1⟩
theorem RS_sgnN {Y : Mem} {b : Nat → Nat} {e a p d ch k : Nat} (h : RS Y b e a p d) (hs : SPr ch k) (hc : ch ≤ 255) (hk : ¬ KD b e p = k) : md_isSign (nI ch) Y = some (0, setA Y p) := by
  obtain ⟨a1, a2, a3, a4⟩ := RS_p h
  obtain ⟨k1, k2⟩ := sign_KD (b := b) (e := e) (p := p) hs
  have := r_sign h.1 h.2.2.1 (by omega) hc
  rw [h.2.2.2.2.1, decide_eq_false (fun q => hk (k1.mp q))] at this
  exact this
/-- the reference after a fault at q -/
def BQ (Y : Mem) (e q d : Nat) : Prop := Y 0 10 = nI q ∧ q ≤ e ∧ ∃ a, a + d ≤ e + 20 ∧ Y 0 9 = nI a
theorem BQ_f {Y : Mem} {e q d : Nat} (h : BQ Y e q d) (he : e ≤ 400) : ¬ Y 0 10 = -1 := by
  rw [h.1, show (-1 : Int32) = -nI 1 from rfl, n_ng (by have := h.2.1; omega) (by omega) (by omega)]
  exact id
theorem BQ_B {Y : Mem} {e a p d : Nat} (ha : a + d ≤ e + 20) (hp : p ≤ e) : BQ (wr (setA Y a) 0 10 (nI p)) e p d := ⟨wr_eq, hp, a, ha, by unfold setA; rw [wr_ne (by omega), wr_eq]⟩
def FrR (Y Y' : Mem) : Prop := ∀ r i, ¬ (r = 0 ∧ (i = 9 ∨ i = 10 ∨ i = 11 ∨ i = 13)) → Y' r i = Y r i
theorem FrR_rfl {Y : Mem} : FrR Y Y := fun _ _ _ => rfl
theorem FrR_tr {A B D : Mem} (h : FrR A B) (h2 : FrR B D) : FrR A D := fun r i p => (h2 r i p).trans (h r i p)
theorem FrR_A {Y : Mem} {a : Nat} : FrR Y (setA Y a) := fun r i h => wr_ne (by omega)
theorem FrR_B {Y : Mem} {a : Nat} {v : Int32} : FrR Y (wr (setA Y a) 0 10 v) := fun r i h => by
  unfold setA
  rw [wr_ne (by omega), wr_ne (by omega)]
/-- the class: its steps from z on may change -/
def FrC (X X' : Mem) (z : Nat) : Prop := ∀ r i, ¬ (r = 1 ∧ i = 6) → ¬ (r = 63 ∧ i = 4) → ¬ (r = 66 ∧ z ≤ i) → X' r i = X r i
theorem FrC_rfl {X : Mem} {z : Nat} : FrC X X z := fun _ _ _ _ _ => rfl
theorem FrC_tr {A B D : Mem} {z z2 : Nat} (h : FrC A B z) (h2 : FrC B D z2) (hz : z ≤ z2) : FrC A D z := fun r i p q s => (h2 r i p q (by omega)).trans (h r i p q s)
theorem FrC_mv {X : Mem} {z : Nat} : FrC X (mvT X) z := fun r i h _ _ => mvT_ne h
def putS (X : Mem) (z : Nat) (s : Int32) : Mem := wr (wr X 66 z s) 63 4 (nI (z + 1))
theorem k_pts {X : Mem} {z : Nat} {s : Int32} (h : X 63 4 = nI z) (hz : z < 400) : ru_putStep 63 s X = some (putS X z s) := by
  unfold ru_putStep putS
  rw [h, if_pos (show nI z < 400 by rw [show (400 : Int32) = nI 400 from rfl, n_lt (by omega) (by omega)]; exact hz), chk_in hz (by omega), n_cl (by omega), lt1_ap, lt1_ap, wr_ne (by omega), h, show nI z + 1 = nI (z + 1) from n_add _ _]
theorem putS_4 {X : Mem} {z : Nat} {s : Int32} : putS X z s 63 4 = nI (z + 1) := wr_eq
theorem putS_s {X : Mem} {z : Nat} {s : Int32} : putS X z s 66 z = s := by unfold putS; rw [wr_ne (by omega), wr_eq]
theorem putS_F {X : Mem} {z : Nat} {s : Int32} : FrC X (putS X z s) z := fun r i _ h1 h2 => by unfold putS; rw [wr_ne (by omega), wr_ne (by omega)]
theorem putS_T {X : Mem} {z : Nat} {s : Int32} {b : Nat → Nat} {e p : Nat} (h : TPo X b e p) : TPo (putS X z s) b e p := TPo_cong h fun r i q => by unfold putS; rw [wr_ne (by omega), wr_ne (by omega)]
theorem k_pts2 {X : Mem} {z : Nat} {s : Int32} (h : X 63 4 = nI z) (hz : z ≤ 400) : ∃ X' z', ru_putStep 63 s X = some X' ∧ z ≤ z' ∧ z' ≤ 400 ∧ X' 63 4 = nI z' ∧ FrC X X' z ∧ ∀ b e p, TPo X b e p → TPo X' b e p := by
  by_cases q : z < 400
  · exact ⟨putS X z s, z + 1, k_pts h q, by omega, by omega, putS_4, putS_F, fun b e p h => putS_T h⟩
  · refine ⟨X, z, ?_, Nat.le_refl _, hz, h, FrC_rfl, fun b e p h => h⟩
    unfold ru_putStep
    rw [h, if_neg (by rw [show (400 : Int32) = nI 400 from rfl, n_lt (by omega) (by omega)]; exact q)]
/-- a reader of each: they go the same way -/
def RdS (Q : Int32 → Prop) (X : Mem) (b : Nat → Nat) (e p zs zc d h pl : Nat) (A : Option (Int32 × Mem)) (G : Mem → Option (Int32 × Mem)) : Prop :=
  (∃ X' p' n v, A = some (1, X') ∧ pl ≤ p' ∧ TPo X' b e p' ∧ X' 63 4 = nI (zs + n) ∧ zs + n + p ≤ zc + p' ∧ zc ≤ zs + n ∧ FrC X X' zc ∧ Ev (X' 66) zs n h v ∧ (∀ F, Q (v F)) ∧ ∀ Y a, RS Y b e a p d → ∃ a', a' ≤ e ∧ skp b e a' = p' ∧ G Y = some (v (Y 5), setA Y a')) ∨
  (∃ X' q z', A = some (0, X') ∧ TPo X' b e q ∧ X' 63 4 = nI z' ∧ zc ≤ z' ∧ z' ≤ 400 ∧ FrC X X' zc ∧ ∀ Y a, RS Y b e a p d → ∃ v Y', Q v ∧ G Y = some (v, Y') ∧ BQ Y' e q d ∧ FrR Y Y')
/-- a reader's first part, then the rest -/
theorem KD_dg {b : Nat → Nat} {e p : Nat} (hp : p ≤ e) (h : KD b e p = 2) : p < e ∧ dgB (b p) = true := by
  have h1 := ((KD2 (b := b) hp).1.mp h).1
  have h3 : kD b e p ≤ e := run_le hp
  exact ⟨by omega, run_in (q := fun i => dgB (b i)) (e := e) (Nat.le_refl p) h1⟩
theorem dg_KD {b : Nat → Nat} {e p : Nat} (h1 : p < e) (h : dgB (b p) = true) : KD b e p = 2 ∨ KD b e p = 3 := by
  unfold KD
  rw [if_pos h1, if_pos h]
  by_cases q : beh b e p - p ≤ 3
  · rw [if_pos q]; exact Or.inl rfl
  · rw [if_neg q]; exact Or.inr rfl
/-- what step a thing is -/
def ptK (b : Nat → Nat) (e p : Nat) : Int32 := if KD b e p = 2 then nI (nvl b p (beh b e p)) else if KD b e p = 20 then -1 else if KD b e p = 21 then -2 else if KD b e p = 22 then -3 else if KD b e p = 23 then -4 else -100
theorem k_pt {X : Mem} {b : Nat → Nat} {e p : Nat} (h : TPo X b e p) : ((tp_thing X).bind fun v1 => (tp_number X).bind fun v2 => rd_partOf v1 v2 X) = some (ptK b e p) := by
  have hl := KD_le b e p
  obtain ⟨nv, hn1, hn2⟩ := k_number h
  rw [k_thing h, bind_s, hn1, bind_s]
  unfold rd_partOf ptK
  rw [show (2 : Int32) = nI 2 from rfl, show (20 : Int32) = nI 20 from rfl, show (21 : Int32) = nI 21 from rfl, show (22 : Int32) = nI 22 from rfl, show (23 : Int32) = nI 23 from rfl, teq_n (by omega) (by omega), teq_n (by omega) (by omega), teq_n (by omega) (by omega), teq_n (by omega) (by omega), teq_n (by omega) (by omega)]
  by_cases q1 : KD b e p = 2
  · rw [if_pos (decide_eq_true q1), if_pos q1, hn2 q1]
  rw [if_neg (by rw [decide_eq_false q1]; decide), if_neg q1]
  by_cases q2 : KD b e p = 20
  · rw [if_pos (decide_eq_true q2), if_pos q2]
  rw [if_neg (by rw [decide_eq_false q2]; decide), if_neg q2]
  by_cases q3 : KD b e p = 21
  · rw [if_pos (decide_eq_true q3), if_pos q3]
  rw [if_neg (by rw [decide_eq_false q3]; decide), if_neg q3]
  by_cases q4 : KD b e p = 22
  · rw [if_pos (decide_eq_true q4), if_pos q4]
  rw [if_neg (by rw [decide_eq_false q4]; decide), if_neg q4]
  by_cases q5 : KD b e p = 23
  · rw [if_pos (decide_eq_true q5), if_pos q5]
  rw [if_neg (by rw [decide_eq_false q5]; decide), if_neg q5]
theorem ptK_w {b : Nat → Nat} {e p : Nat} (h : ¬ ptK b e p = -100) : -5 < ptK b e p ∧ 1 < KD b e p ∧ (KD b e p = 2 ∨ KD b e p = 20 ∨ KD b e p = 21 ∨ KD b e p = 22 ∨ KD b e p = 23) := by
  unfold ptK at h ⊢
  by_cases q1 : KD b e p = 2
  · have hv := nvl_le q1
    rw [if_pos q1]
    exact ⟨by rw [show (-5 : Int32) = -nI 5 from rfl, n_nglt (by omega) (by omega) (by omega)]; trivial, by omega, Or.inl q1⟩
  rw [if_neg q1] at h ⊢
  by_cases q2 : KD b e p = 20
  · rw [if_pos q2]
    exact ⟨by decide, by omega, by omega⟩
  rw [if_neg q2] at h ⊢
  by_cases q3 : KD b e p = 21
  · rw [if_pos q3]
    exact ⟨by decide, by omega, by omega⟩
  rw [if_neg q3] at h ⊢
  by_cases q4 : KD b e p = 22
  · rw [if_pos q4]
    exact ⟨by decide, by omega, by omega⟩
  rw [if_neg q4] at h ⊢
  by_cases q5 : KD b e p = 23
  · rw [if_pos q5]
    exact ⟨by decide, by omega, by omega⟩
  rw [if_neg q5] at h
  exact absurd rfl h
theorem ptK_n {b : Nat → Nat} {e p : Nat} (h : ptK b e p = -100) : ¬ (KD b e p = 2 ∨ KD b e p = 20 ∨ KD b e p = 21 ∨ KD b e p = 22 ∨ KD b e p = 23) := by
  unfold ptK at h
  rintro (q | q | q | q | q)
  · have hv := nvl_le q
    rw [if_pos q, show (-100 : Int32) = -nI 100 from rfl, n_ng (by omega) (by omega) (by omega)] at h
    exact h
  · rw [if_neg (by omega), if_pos q] at h
    exact absurd h (by decide)
  · rw [if_neg (by omega), if_neg (by omega), if_pos q] at h
    exact absurd h (by decide)
  · rw [if_neg (by omega), if_neg (by omega), if_neg (by omega), if_pos q] at h
    exact absurd h (by decide)
  · rw [if_neg (by omega), if_neg (by omega), if_neg (by omega), if_neg (by omega), if_pos q] at h
    exact absurd h (by decide)
theorem r_part {Y : Mem} {b : Nat → Nat} {e a p d : Nat} (h : RS Y b e a p d) :
    (¬ ptK b e p = -100 → md_part Y = some (pOf (Y 5) (ptK b e p), setA Y (beh b e p))) ∧
    (ptK b e p = -100 → ∃ v a', a' ≤ e ∧ md_part Y = some (v, wr (setA Y a') 0 10 (nI p))) := by
  obtain ⟨a1, a2, a3, a4⟩ := RS_p h
  obtain ⟨s1, s2⟩ := RS_skip h
  have e9 : setA Y p 0 9 = nI p := setA_9
  have hyes : ∀ {w k : Nat}, WPr w k → KD b e p = k → md_has w (setA Y p) = some (1, setA Y (beh b e p)) := fun hw hk => by rw [RS_hasY s2 hw hk, sA_sA]
  have hno : ∀ {w k : Nat}, WPr w k → ¬ KD b e p = k → md_has w (setA Y p) = some (0, setA Y p) := fun hw hk => by rw [RS_hasN s2 hw hk, sA_sA]
  have i1 : ¬ (1 : Int32) = 0 := by decide
  have fact : ∀ i, setA Y (beh b e p) 5 i = Y 5 i := fun i => wr_ne (by omega)
  have start : md_part Y = if p < e ∧ dgB (b p) = true then bnd2 (md_figures (nI 0) (nI 999) (setA Y p)) fun v14 M13 => some (v14, M13) else md_part_J52 (setA Y p) := by
    unfold md_part
    rw [h.2.1, if_pos rfl, s1, bind_s, e9, s2.1.1]
    by_cases q : p < e
    · have hb := s2.1.2.2.1 p q
      rw [if_pos (by rw [n_lt (by omega) (by omega)]; exact q), r_letter s2.1 q, bind_s, show md_isIn (nI (b p)) 48 57 (setA Y p) = md_isIn (nI (b p)) (nI 48) (nI 57) (setA Y p) from rfl, r_isIn (by omega) (by omega) (by omega), bind_s, show decide (48 ≤ b p ∧ b p ≤ 57) = dgB (b p) from rfl]
      by_cases q2 : dgB (b p) = true
      · rw [ifb_t q2, if_pos ⟨q, q2⟩]
        rfl
      · rw [ifb_f (Bool.eq_false_iff.mpr q2), if_neg (fun h => q2 h.2)]
    · rw [if_neg (by rw [n_lt (by omega) (by omega)]; exact q), if_neg (fun h => q h.1)]
  obtain ⟨f1, f2⟩ := r_figures (lo := 0) (H := 1000) (hi := nI 999) s2.1 e9 a2 s2.2.1 (by omega) (fun v hv => by rw [n_lt (by omega) (by omega)]; omega)
  rw [a3] at f1 f2
  refine ⟨fun q => ?_, fun q => ?_⟩
  · obtain ⟨_, q1, q2⟩ := ptK_w q
    rw [start]
    rcases q2 with q2 | q2
    · have hv := nvl_le q2
      have g := f1 q2 (Nat.zero_le _) (by omega)
      have ep : ptK b e p = nI (nvl b p (beh b e p)) := if_pos q2
      have epf : pOf (Y 5) (ptK b e p) = nI (nvl b p (beh b e p)) := by
        rw [ep]
        unfold pOf
        rw [if_neg (by rw [show (-4 : Int32) = -nI 4 from rfl, n_ng (by omega) (by omega) (by omega)]; exact id), if_neg (by rw [show (-3 : Int32) = -nI 3 from rfl, n_ng (by omega) (by omega) (by omega)]; exact id), if_neg (by rw [show (-2 : Int32) = -nI 2 from rfl, n_ng (by omega) (by omega) (by omega)]; exact id), if_neg (by rw [show (-1 : Int32) = -nI 1 from rfl, n_ng (by omega) (by omega) (by omega)]; exact id)]
      rw [if_pos (KD_dg a2 q2), g, bnd_s, epf, sA_sA]
    · have q3 : ¬ (p < e ∧ dgB (b p) = true) := fun h => by
        rcases dg_KD h.1 h.2 with h1 | h1 <;> omega
      rw [if_neg q3]
      unfold md_part_J52
      rcases q2 with q2 | q2 | q2 | q2
      · have ep : ptK b e p = -1 := by unfold ptK; rw [if_neg (by omega), if_pos q2]
        rw [hyes W13 q2, bnd_s, if_neg i1, ep]
        unfold md_part_J105
        rw [if_neg (by decide), show (0 : Int32) = nI 0 from rfl, chk_in (by omega) (by omega), n_cl (by omega), fact]
        rfl
      · have ep : ptK b e p = -2 := by unfold ptK; rw [if_neg (by omega), if_neg (by omega), if_pos q2]
        rw [hno W13 (by omega), bnd_s, if_pos rfl, hyes W14 q2, bnd_s, if_neg i1, ep]
        unfold md_part_J105
        rw [if_neg (by decide), show (1 : Int32) = nI 1 from rfl, chk_in (by omega) (by omega), n_cl (by omega), fact]
        rfl
      · have ep : ptK b e p = -3 := by unfold ptK; rw [if_neg (by omega), if_neg (by omega), if_neg (by omega), if_pos q2]
        rw [hno W13 (by omega), bnd_s, if_pos rfl, hno W14 (by omega), bnd_s, if_pos rfl, hyes W15 q2, bnd_s, if_neg i1, ep]
        unfold md_part_J105
        rw [if_neg (by decide), show (2 : Int32) = nI 2 from rfl, chk_in (by omega) (by omega), n_cl (by omega), fact]
        rfl
      · have ep : ptK b e p = -4 := by unfold ptK; rw [if_neg (by omega), if_neg (by omega), if_neg (by omega), if_neg (by omega), if_pos q2]
        rw [hno W13 (by omega), bnd_s, if_pos rfl, hno W14 (by omega), bnd_s, if_pos rfl, hno W15 (by omega), bnd_s, if_pos rfl, hyes W16 q2, bnd_s, if_neg i1, ep]
        unfold md_part_J105
        rw [if_neg (by decide), show (3 : Int32) = nI 3 from rfl, chk_in (by omega) (by omega), n_cl (by omega), fact]
        rfl
  · have q2 := ptK_n q
    rw [start]
    by_cases q3 : p < e ∧ dgB (b p) = true
    · obtain ⟨v, a', g1, g2, g3⟩ := f2 (fun h => q2 (Or.inl h.1))
      rw [if_pos q3, g3, bnd_s, sA_sA]
      exact ⟨_, a', g2, rfl⟩
    · rw [if_neg q3]
      unfold md_part_J52
      rw [hno W13 (by omega), bnd_s, if_pos rfl, hno W14 (by omega), bnd_s, if_pos rfl, hno W15 (by omega), bnd_s, if_pos rfl, hno W16 (by omega), bnd_s, if_pos rfl]
      unfold md_part_J105
      rw [if_pos rfl, e9, r_wrong _ s2.2.1, bind_s]
      exact ⟨_, p, a2, rfl⟩
