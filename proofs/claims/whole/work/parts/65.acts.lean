/-! cross, swim, rest, look, owed, count -/
def FX (X X' : Mem) : Prop := ∀ r i, (r < 30 ∨ (44 ≤ r ∧ r < 75)) → X' r i = X r i
def FY (Y Y' : Mem) : Prop := ∀ r i, (r = 2 ∨ r = 4 ∨ (r = 0 ∧ (i = 3 ∨ i = 6 ∨ i = 10))) → Y' r i = Y r i
def RuC (c c' : Nat → Nat) : Prop := ∀ i, (i = 8 ∨ i = 9 ∨ 248 ≤ i) → c' i = c i
/-- river and banks stand in both, T calls on -/
def SV (T : Nat) (X Y : Mem) (c : Nat → Nat) : Prop := XRv 6 X c ∧ XB 30 X c ∧ WR c ∧ WB T c ∧ EY Y c ∧ Z0 X
def Out (T : Nat) (X Y X' Y' : Mem) (c c' : Nat → Nat) : Prop := SV T X' Y' c' ∧ FX X X' ∧ FY Y Y' ∧ RuC c c'
theorem WB_le {T T' : Nat} {c : Nat → Nat} (h : WB T c) (hT : T ≤ T') : WB T' c := by
  obtain ⟨h0, h1, h2, h3, h4, h5, h6⟩ := h
  refine ⟨by omega, h1, h2, by omega, by omega, fun b hb => ?_, fun a b ha hb => ?_⟩
  · have := h5 b hb
    exact ⟨by omega, this.2⟩
  · have := h6 a b ha hb
    exact ⟨by omega, this.2⟩
theorem SV_LV {T : Nat} {X Y : Mem} {c : Nat → Nat} (h : SV T X Y c) (hT : T ≤ 520) : LV X c := ⟨h.1, h.2.1, h.2.2.1, T, hT, h.2.2.2.1⟩
theorem Out_same {T : Nat} {X Y X' Y' : Mem} {c : Nat → Nat} (h : SV T X Y c) (hX : ∀ r i, ¬ (75 ≤ r ∧ r ≤ 79) → X' r i = X r i) (hz : Z0 X') (hY : ∀ r i, ¬ (r = 0 ∧ (i = 0 ∨ i = 17)) → Y' r i = Y r i) : Out (T + 1) X Y X' Y' c c :=
  ⟨⟨XR_cong h.1 fun r i _ _ => hX r i (by omega), XB_cong h.2.1 fun r i _ _ => hX r i (by omega), h.2.2.1, WB_le h.2.2.2.1 (by omega), EY_fr h.2.2.2.2.1 fun i => hY 1 i (by omega), hz⟩, fun r i _ => hX r i (by omega), fun r i q => hY r i (by omega), fun i _ => rfl⟩
theorem mins_le {c : Nat → Nat} {nd f : Nat} (hw : WR c) (h : nd ≤ f) (hf : 0 < f) : mins c nd f ≤ 60 ∧ 1 ≤ mins c nd f := by
  have h1 : c 7 ≤ 60 := hw.2.2.2.2.1.2
  have h2 : 1 ≤ c 7 := hw.2.2.2.2.1.1
  have h3 : c 7 * nd ≤ c 7 * f := Nat.mul_le_mul_left _ h
  have h4 : (c 7 * nd + f - 1) / f < c 7 + 1 := Nat.div_lt_of_lt_mul (by rw [Nat.mul_comm f, Nat.succ_mul]; omega)
  unfold mins
  omega
theorem crs_le {c : Nat → Nat} {ov bk ld pl : Nat} (hw : WR c) : crs c ov bk ld pl ≤ 60 := by
  unfold crs crs2
  split
  · split
    · next h => exact (mins_le hw h.2.1 (by omega)).1
    · exact Nat.zero_le _
  · exact Nat.zero_le _
theorem crs_sub {c : Nat → Nat} {ov bk ld pl : Nat} (h : ¬ crs c ov bk ld pl = 0) : sd ld (here c ov bk) = 0 ∧ sd pl (sd (al c) (here c ov bk)) = 0 := by
  unfold crs at h
  by_cases q : sd ld (here c ov bk) = 0 ∧ sd pl (sd (al c) (here c ov bk)) = 0
  · exact q
  · rw [if_neg q] at h
    exact absurd rfl h
theorem k_state {X : Mem} {c : Nat → Nat} (h : XB 30 X c) (h3 : c 3 ≤ 1) (h4 : c 4 < 1024) : bk_state 30 X = some (nI (2 * c 4 + c 3)) := by
  have e := Nat.two_pow_add_eq_or_of_lt (show c 3 < 2 ^ 1 by omega) (c 4)
  unfold bk_state
  rw [h.1, h.2.1]
  simp (disch := omega) only [n_lit, n_m31, n_shl, n_or, Nat.pow_one]
  rw [Nat.mul_comm (c 4) 2, ← e]
theorem xor1 {a : Nat} (h : a ≤ 1) : a ^^^ 1 = 1 - a := by
  have : a = 0 ∨ a = 1 := by omega
  rcases this with rfl | rfl <;> rfl
theorem crsC_td {c : Nat → Nat} {L P b : Nat} (hb : b < 10) : td (crsC c L P) b = td c b + tb P b := by
  unfold td crsC
  rw [if_neg (by omega), if_neg (by omega), if_neg (by omega), if_pos (by omega), show (38 + 5 * b + 4 - 38) / 5 = b by omega]
theorem crsC_pu {c : Nat → Nat} {L P a b : Nat} (ha : a < 10) (hb : b < 10) : pu (crsC c L P) a b = pu c a b + (if P.testBit b then owe c L a else 0) := by
  unfold pu crsC
  rw [if_neg (by omega), if_neg (by omega), if_neg (by omega), if_neg (by omega), if_pos (by omega), show (148 + 10 * a + b - 148) / 10 = a by omega, show (148 + 10 * a + b - 148) % 10 = b by omega]
theorem k_note {X : Mem} {c : Nat → Nat} {L P : Nat} (h : XB 30 X c) (h3 : c 3 ≤ 1) (hL : L < 2 ^ c 1) : ∃ X', bk_noteCrossing 30 (nI L) (nI P) (nI (mk (dbt c) (c 1))) X = some X' ∧ XB 30 X' (crsC c L P) ∧ (∀ r i, ¬ (30 ≤ r ∧ r < 43) → X' r i = X r i) := by
  obtain ⟨h0, h1, h2, h3', h4, h5, h6⟩ := h
  obtain ⟨M', e1, e2, e3, e4⟩ := nC_L (R := 30) (L := L) (P := P) (D := mk (dbt c) (c 1)) (K := fun M7 => some M7) 10 0 FU (wr (wr (wr X 30 0 (nI (c 4 ^^^ L))) 30 1 (nI (1 - c 3))) 30 3 (nI (c 10 + 1))) (by omega) (by rw [FUe]; omega)
  refine ⟨M', ?_, ⟨?_, ?_, ?_, ?_, ?_, fun b hb => ?_, fun a b ha hb => ?_⟩, fun r i hr => ?_⟩
  · unfold bk_noteCrossing
    simp only [n_lit, lt1_ap]
    rw [wr_ne (M := X) (r := 30) (i := 0) (by omega), h0, h1, n_xor, n_xor, xor1 h3, wr_ne (M := wr X 30 0 (nI (c 4 ^^^ L))) (r := 30) (i := 1) (by omega), wr_ne (by omega), h3', n_add]
    exact e1
  · rw [e4 _ _ (by omega), wr_ne (by omega), wr_ne (by omega), wr_eq]
    rfl
  · rw [e4 _ _ (by omega), wr_ne (by omega), wr_eq]
    rfl
  · rw [e4 _ _ (by omega), wr_ne (by omega), wr_ne (by omega), wr_ne (by omega), h2]
    rfl
  · rw [e4 _ _ (by omega), wr_eq]
    rfl
  · rw [e4 _ _ (by omega), wr_ne (by omega), wr_ne (by omega), wr_ne (by omega), h4]
    rfl
  · rw [e2 b (by omega) hb, wr_ne (by omega), wr_ne (by omega), wr_ne (by omega), h5 b hb, n_add, crsC_td hb]
  · rw [e3 a b ha (by omega) hb, wr_ne (by omega), wr_ne (by omega), wr_ne (by omega), h6 a b ha hb, n_add, crsC_pu ha hb]
    congr 2
    unfold tb owe
    rw [Nat.testBit_and, mk_tb]
    by_cases q : a < c 1
    · rw [decide_eq_true q, Bool.true_and]
    · rw [tb_big hL (by omega), Bool.false_and, Bool.false_and]
  · rw [e4 r i (by omega), wr_ne (by omega), wr_ne (by omega), wr_ne (by omega)]
/-! the reference's crossing -/
def plK (c : Nat → Nat) (L p j i : Nat) : Nat := if 148 ≤ i ∧ i < 248 ∧ (i - 148) % 10 = p ∧ (i - 148) / 10 < j then c i + owe c L ((i - 148) / 10) else c i
def ckK (c : Nat → Nat) (L P k i : Nat) : Nat := if 38 ≤ i ∧ i < 88 ∧ (i - 38) % 5 = 4 ∧ (i - 38) / 5 < k then c i + tb P ((i - 38) / 5) else if 148 ≤ i ∧ i < 248 ∧ (i - 148) % 10 < k ∧ (i - 148) / 10 < c 1 then c i + (if P.testBit ((i - 148) % 10) then owe c L ((i - 148) / 10) else 0) else c i
theorem rP_L {c : Nat → Nat} {L p : Nat} {p2 y3 : Int32} (hw : WR c) (hp : p < 10) {K : Mem → Option (Int32 × Mem)} : ∀ m k fu (M : Mem), k + m = c 1 → m < fu → EY M (plK c L p k) → ∃ M', md_cross_L130 (nI L) p2 y3 (nI p) K fu (nI k) M = K M' ∧ EY M' (plK c L p (c 1)) ∧ (∀ r i, ¬ r = 1 → M' r i = M r i)
  | 0, k, 0, M, _, hf => absurd hf (by omega)
  | 0, k, fu + 1, M, hk, _ => fun hE => by
    have h10 := WR_n hw
    refine ⟨M, ?_, ?_, fun r i _ => rfl⟩
    · rw [md_cross_L130, EY_n hE (i := 1) (by omega) (by omega), show plK c L p k 1 = c 1 from rfl]
      simp (disch := omega) only [n_lit, n_lt, if_neg]
    · rw [show c 1 = k by omega]
      exact hE
  | m + 1, k, 0, M, _, hf => absurd hf (by omega)
  | m + 1, k, fu + 1, M, hk, hf => fun hE => by
    have h10 := WR_n hw
    have h3 := (hw.2.2.2.2.2.2.2.2.1 k (by omega)).1
    have ek : plK c L p k (38 + 5 * k + 0) = kd c k := by
      unfold plK
      rw [if_neg (by omega)]
    have ej : plK c L p k (148 + 10 * k + p) = pu c k p := by
      unfold plK
      rw [if_neg (by omega)]
    have hC : ∀ i, i < 648 → ¬ i = 148 + 10 * k + p → plK c L p (k + 1) i = plK c L p k i := fun i hi q => by
      unfold plK
      by_cases q2 : 148 ≤ i ∧ i < 248 ∧ (i - 148) % 10 = p ∧ (i - 148) / 10 < k
      · rw [if_pos q2, if_pos (by omega)]
      · rw [if_neg q2, if_neg (by omega)]
    have hN : plK c L p (k + 1) (148 + 10 * k + p) = pu c k p + owe c L k := by
      unfold plK pu
      rw [if_pos (by omega), show (148 + 10 * k + p - 148) / 10 = k by omega]
    rw [md_cross_L130]
    simp only [n_lit]
    rw [EY_n hE (i := 1) (by omega) (by omega), show plK c L p k 1 = c 1 from rfl, r_isOf (by omega), r_of hE (by omega) (by omega), ek]
    simp (disch := omega) only [n_lit, n_lt, if_pos, Option.bind_some, bI_0]
    by_cases q : (L.testBit k && dbt c k) = true
    · have e1 : owe c L k = 1 := if_pos q
      obtain ⟨M', f1, f2, f3⟩ := rP_L hw hp (L := L) (p2 := p2) (y3 := y3) (K := K) m (k + 1) fu (wr M 1 (148 + 10 * k + p) (nI (pu c k p + 1))) (by omega) (by omega) (EY_wr hE (by omega) (by omega) hC (by rw [hN, e1]))
      refine ⟨M', ?_, f2, fun r i hr => by rw [f3 r i hr, wr_ne (by omega)]⟩
      have stp : md_cross_J171 (nI L) p2 (fun a5 aM => md_cross_L130 (nI L) p2 y3 (nI p) K fu a5 aM) K y3 (nI p) (nI k) M = K M' := by
        unfold md_cross_J171
        simp (disch := omega) only [n_lit, n_mul, n_add, chk_in, n_cl, lt1_ap]
        rw [EY_n hE (i := 148 + 10 * k + p) (by omega) (by omega), ej, n_add]
        exact f1
      rw [Bool.and_eq_true] at q
      rw [if_neg (by rw [q.1]; decide)]
      by_cases q1 : kd c k = 0
      · rw [q1, if_pos rfl]
        exact stp
      · have q2 : kd c k = 3 := by
          have := q.2
          unfold dbt at this
          rw [decide_eq_false q1, Bool.false_or, decide_eq_true_iff] at this
          exact this
        rw [q2, if_neg (by decide), if_pos rfl]
        exact stp
    · have e1 : owe c L k = 0 := if_neg q
      obtain ⟨M', f1, f2, f3⟩ := rP_L hw hp (L := L) (p2 := p2) (y3 := y3) (K := K) m (k + 1) fu M (by omega) (by omega) (EY_c hE fun i hi => by
        by_cases q2 : i = 148 + 10 * k + p
        · rw [q2, hN, ej, e1, Nat.add_zero]
        · exact hC i hi q2)
      refine ⟨M', ?_, f2, f3⟩
      rw [n_add]
      cases q0 : L.testBit k
      · rw [if_pos rfl]
        exact f1
      · rw [if_neg (by decide)]
        have q1 : ¬ kd c k = 0 ∧ ¬ kd c k = 3 := by
          refine ⟨fun e => q ?_, fun e => q ?_⟩
          · rw [q0]; unfold dbt; rw [decide_eq_true e]; rfl
          · rw [q0]; unfold dbt; rw [decide_eq_true e, Bool.or_true]; rfl
        simp (disch := omega) only [n_eq]
        rw [if_neg q1.1, if_neg q1.2]
        exact f1
theorem owe_c {c c' : Nat → Nat} {L a : Nat} (h : c' (38 + 5 * a + 0) = c (38 + 5 * a + 0)) : owe c' L a = owe c L a := by
  unfold owe dbt kd
  rw [h]
theorem rC_L {c : Nat → Nat} {L P : Nat} {y3 : Int32} (hw : WR c) {K : Mem → Option (Int32 × Mem)} : ∀ m k fu (M : Mem), k + m = c 1 → m < fu → EY M (ckK c L P k) → ∃ M', md_cross_L86 (nI L) (nI P) y3 K fu (nI k) M = K M' ∧ EY M' (ckK c L P (c 1)) ∧ (∀ r i, ¬ r = 1 → M' r i = M r i)
  | 0, k, 0, M, _, hf => absurd hf (by omega)
  | 0, k, fu + 1, M, hk, _ => fun hE => by
    have h10 := WR_n hw
    refine ⟨M, ?_, ?_, fun r i _ => rfl⟩
    · rw [md_cross_L86, EY_n hE (i := 1) (by omega) (by omega), show ckK c L P k 1 = c 1 from rfl]
      simp (disch := omega) only [n_lit, n_lt, if_neg]
    · rw [show c 1 = k by omega]
      exact hE
  | m + 1, k, 0, M, _, hf => absurd hf (by omega)
  | m + 1, k, fu + 1, M, hk, hf => fun hE => by
    have h10 := WR_n hw
    rw [md_cross_L86, EY_n hE (i := 1) (by omega) (by omega), show ckK c L P k 1 = c 1 from rfl, r_isOf (by omega)]
    simp (disch := omega) only [n_lit, n_lt, if_pos, Option.bind_some, bI_0]
    by_cases q : P.testBit k = true
    · have et : ckK c L P k (38 + 5 * k + 4) = td c k := by
        unfold ckK
        rw [if_neg (by omega), if_neg (by omega)]
      have hc1 : ∀ i, rc i → ckK c L P k i = c i := fun i hi => by
        unfold rc at hi
        unfold ckK
        rw [if_neg (by omega), if_neg (by omega)]
      have hw1 : WR (up (ckK c L P k) (38 + 5 * k + 4) (td c k + 1)) := WR_c hw (fun i hi => by
        rw [up_ne (by unfold rc at hi; omega)]
        exact hc1 i hi)
      have hE1 : EY (wr M 1 (38 + 5 * k + 4) (nI (td c k + 1))) (plK (up (ckK c L P k) (38 + 5 * k + 4) (td c k + 1)) L k 0) := EY_wr hE (by omega) (by omega) (fun i hi q2 => by
        unfold plK
        rw [if_neg (by omega), up_ne q2]) (by
        unfold plK
        rw [if_neg (by omega), up_eq])
      obtain ⟨M1, g1, g2, g3⟩ := rP_L hw1 (p := k) (by omega) (L := L) (p2 := nI P) (y3 := y3) (K := fun M14 => md_cross_L86 (nI L) (nI P) y3 K fu (nI (k + 1)) M14) (c 1) 0 FU _ (by show 0 + c 1 = c 1; omega) (by rw [FUe]; omega) hE1
      have hE2 : EY M1 (ckK c L P (k + 1)) := EY_c g2 fun i hi => by
        show ckK c L P (k + 1) i = plK _ L k (c 1) i
        unfold plK
        by_cases q2 : 148 ≤ i ∧ i < 248 ∧ (i - 148) % 10 = k ∧ (i - 148) / 10 < c 1
        · rw [if_pos (by exact q2), up_ne (by omega), owe_c (c := c) (by rw [up_ne (by omega)]; exact hc1 _ (by unfold rc; omega))]
          have a1 : ckK c L P (k + 1) i = c i + owe c L ((i - 148) / 10) := by
            unfold ckK
            rw [if_neg (by omega), if_pos (by omega), q2.2.2.1, if_pos q]
          have a2 : ckK c L P k i = c i := by
            unfold ckK
            rw [if_neg (by omega), if_neg (by omega)]
          rw [a1, a2]
        · rw [if_neg (by exact q2)]
          by_cases q3 : i = 38 + 5 * k + 4
          · rw [q3, up_eq]
            unfold ckK
            rw [if_pos (by omega), show (38 + 5 * k + 4 - 38) / 5 = k by omega]
            unfold tb
            rw [if_pos q]
          · rw [up_ne q3]
            unfold ckK
            by_cases q4 : 38 ≤ i ∧ i < 88 ∧ (i - 38) % 5 = 4 ∧ (i - 38) / 5 < k
            · rw [if_pos q4, if_pos (by omega)]
            · rw [if_neg q4, if_neg (by omega)]
              by_cases q5 : 148 ≤ i ∧ i < 248 ∧ (i - 148) % 10 < k ∧ (i - 148) / 10 < c 1
              · rw [if_pos q5, if_pos (by omega)]
              · rw [if_neg q5, if_neg (by omega)]
      obtain ⟨M', f1, f2, f3⟩ := rC_L hw (L := L) (P := P) (y3 := y3) (K := K) m (k + 1) fu M1 (by omega) (by omega) hE2
      refine ⟨M', ?_, f2, fun r i hr => by rw [f3 r i hr, g3 r i hr, wr_ne (by omega)]⟩
      rw [if_neg (by rw [q]; decide), ← f1, ← g1]
      simp (disch := omega) only [n_mul, n_add, chk_in, n_cl, lt1_ap]
      rw [EY_n hE (i := 38 + 5 * k + 4) (by omega) (by omega), et, n_add]
    · have q : P.testBit k = false := Bool.eq_false_iff.mpr q
      obtain ⟨M', f1, f2, f3⟩ := rC_L hw (L := L) (P := P) (y3 := y3) (K := K) m (k + 1) fu M (by omega) (by omega) (EY_c hE fun i hi => by
        unfold ckK
        by_cases q4 : 38 ≤ i ∧ i < 88 ∧ (i - 38) % 5 = 4 ∧ (i - 38) / 5 < k
        · rw [if_pos q4, if_pos (by omega)]
        · rw [if_neg q4]
          by_cases q6 : 38 ≤ i ∧ i < 88 ∧ (i - 38) % 5 = 4 ∧ (i - 38) / 5 < k + 1
          · rw [if_pos q6, if_neg (by omega), show (i - 38) / 5 = k by omega]
            unfold tb
            rw [q]
            rfl
          · rw [if_neg q6]
            by_cases q5 : 148 ≤ i ∧ i < 248 ∧ (i - 148) % 10 < k ∧ (i - 148) / 10 < c 1
            · rw [if_pos q5, if_pos (by omega)]
            · rw [if_neg q5]
              by_cases q7 : 148 ≤ i ∧ i < 248 ∧ (i - 148) % 10 < k + 1 ∧ (i - 148) / 10 < c 1
              · rw [if_pos q7, show (i - 148) % 10 = k by omega, q]
                rfl
              · rw [if_neg q7])
      refine ⟨M', ?_, f2, f3⟩
      rw [if_pos q, n_add]
      exact f1
theorem crsC_rc {c : Nat → Nat} {L P : Nat} (i : Nat) (h : rc i) : crsC c L P i = c i := by
  unfold rc at h
  unfold crsC
  rw [if_neg (by omega), if_neg (by omega), if_neg (by omega), if_neg (by omega), if_neg (by omega)]
theorem crsC_WB {c : Nat → Nat} {T L P m : Nat} (hb : WB T c) (hL : L < 2 ^ c 1) (hP : P < 2 ^ c 1) (hm : m ≤ 4000) : WB (T + 1) (goC (crsC c L P) m) := by
  obtain ⟨h0, h1, h2, h3, h4, h5, h6⟩ := hb
  have e1 : goC (crsC c L P) m 1 = c 1 := by rw [goC_rc 1 (by unfold rc; omega), crsC_rc 1 (by unfold rc; omega)]
  refine ⟨?_, ?_, ?_, ?_, ?_, fun b hb => ?_, fun a b ha hb => ?_⟩
  · have : goC (crsC c L P) m 2 = c 2 + m := rfl
    omega
  · have : goC (crsC c L P) m 3 = 1 - c 3 := rfl
    omega
  · rw [e1]
    exact xor_lt h2 hL
  · have : goC (crsC c L P) m 10 = c 10 + 1 := rfl
    omega
  · have : goC (crsC c L P) m 11 = c 11 := rfl
    omega
  · have := h5 b hb
    have e : td (goC (crsC c L P) m) b = td c b + tb P b - ((c 2 + m) / 60 - c 2 / 60) := by
      rw [← crsC_td hb]
      unfold td goC
      rw [if_neg (by omega), if_pos (by omega)]
      rfl
    have h7 := tb_lt P b
    rw [e1, e]
    refine ⟨by omega, fun q => ?_⟩
    have : tb P b = 0 := by rw [tb_0]; exact tb_big hP q
    omega
  · have := h6 a b ha hb
    have e : pu (goC (crsC c L P) m) a b = pu c a b + (if P.testBit b then owe c L a else 0) := by
      rw [← crsC_pu ha hb]
      unfold pu goC
      rw [if_neg (by omega), if_neg (by omega)]
    have h7 := owe_le c L a
    rw [e1, e]
    refine ⟨by split <;> omega, fun q => ?_⟩
    rw [this.2 q]
    rcases q with q | q
    · have : owe c L a = 0 := by
        unfold owe
        rw [tb_big hL q]
        rfl
      rw [this]
      split <;> rfl
    · rw [tb_big hP q]
      rfl
theorem crsC_WB0 {c : Nat → Nat} {T L P : Nat} (hb : WB T c) (hL : L < 2 ^ c 1) (hP : P < 2 ^ c 1) : WB (T + 1) (crsC c L P) := by
  have := crsC_WB hb hL hP (m := 0) (by omega)
  refine (?_ : goC (crsC c L P) 0 = crsC c L P) ▸ this
  funext i
  unfold goC
  by_cases q : i = 2
  · rw [if_pos q, q]
    rfl
  · rw [if_neg q]
    split
    · show _ - ((_ + 0) / 60 - _) = _
      omega
    · rfl
theorem ckK_eq {c : Nat → Nat} {L P : Nat} (hw : WR c) (hL : L < 2 ^ c 1) (hP : P < 2 ^ c 1) (i : Nat) (hi : i < 648) : crsC c L P i = ckK (up (up (up c 4 (c 4 ^^^ L)) 3 (1 - c 3)) 10 (c 10 + 1)) L P (c 1) i := by
  have h10 := WR_n hw
  have hc1 : ∀ i, rc i → (up (up (up c 4 (c 4 ^^^ L)) 3 (1 - c 3)) 10 (c 10 + 1)) i = c i := fun i hi => by
    unfold rc at hi
    rw [up_ne (by omega), up_ne (by omega), up_ne (by omega)]
  by_cases q4 : i = 4
  · subst q4
    unfold crsC ckK
    rw [if_pos rfl, if_neg (by omega), if_neg (by omega), up_ne (by omega), up_ne (by omega), up_eq]
  · by_cases q3 : i = 3
    · subst q3
      unfold crsC ckK
      rw [if_neg (by omega), if_pos rfl, if_neg (by omega), if_neg (by omega), up_ne (by omega), up_eq]
    · by_cases q10 : i = 10
      · subst q10
        unfold crsC ckK
        rw [if_neg (by omega), if_neg (by omega), if_pos rfl, if_neg (by omega), if_neg (by omega), up_eq]
      · have e0 : up (up (up c 4 (c 4 ^^^ L)) 3 (1 - c 3)) 10 (c 10 + 1) i = c i := by rw [up_ne q10, up_ne q3, up_ne q4]
        have e1 : up (up (up c 4 (c 4 ^^^ L)) 3 (1 - c 3)) 10 (c 10 + 1) 1 = c 1 := by rw [up_ne (by omega), up_ne (by omega), up_ne (by omega)]
        have aL : crsC c L P i = if 38 ≤ i ∧ i < 88 ∧ (i - 38) % 5 = 4 then c i + tb P ((i - 38) / 5) else if 148 ≤ i ∧ i < 248 then c i + (if P.testBit ((i - 148) % 10) then owe c L ((i - 148) / 10) else 0) else c i := by
          unfold crsC
          rw [if_neg q4, if_neg q3, if_neg q10]
        have aR : ckK (up (up (up c 4 (c 4 ^^^ L)) 3 (1 - c 3)) 10 (c 10 + 1)) L P (c 1) i = if 38 ≤ i ∧ i < 88 ∧ (i - 38) % 5 = 4 ∧ (i - 38) / 5 < c 1 then c i + tb P ((i - 38) / 5) else if 148 ≤ i ∧ i < 248 ∧ (i - 148) % 10 < c 1 ∧ (i - 148) / 10 < c 1 then c i + (if P.testBit ((i - 148) % 10) then owe (up (up (up c 4 (c 4 ^^^ L)) 3 (1 - c 3)) 10 (c 10 + 1)) L ((i - 148) / 10) else 0) else c i := by
          unfold ckK
          rw [e0, e1]
        rw [aL, aR]
        by_cases q5 : 38 ≤ i ∧ i < 88 ∧ (i - 38) % 5 = 4
        · rw [if_pos q5]
          by_cases q6 : (i - 38) / 5 < c 1
          · rw [if_pos ⟨q5.1, q5.2.1, q5.2.2, q6⟩]
          · rw [if_neg (fun e => q6 e.2.2.2), if_neg (by omega)]
            have : tb P ((i - 38) / 5) = 0 := by rw [tb_0]; exact tb_big hP (by omega)
            omega
        · rw [if_neg q5]
          by_cases q7 : 148 ≤ i ∧ i < 248
          · rw [if_pos q7, if_neg (show ¬ (38 ≤ i ∧ i < 88 ∧ (i - 38) % 5 = 4 ∧ (i - 38) / 5 < c 1) from fun e => q5 ⟨e.1, e.2.1, e.2.2.1⟩)]
            by_cases q8 : (i - 148) % 10 < c 1 ∧ (i - 148) / 10 < c 1
            · rw [owe_c (c := c) (c' := up (up (up c 4 (c 4 ^^^ L)) 3 (1 - c 3)) 10 (c 10 + 1)) (hc1 _ (by unfold rc; omega)), if_pos (show 148 ≤ i ∧ i < 248 ∧ (i - 148) % 10 < c 1 ∧ (i - 148) / 10 < c 1 from ⟨q7.1, q7.2, q8.1, q8.2⟩)]
            · rw [if_neg (show ¬ (148 ≤ i ∧ i < 248 ∧ (i - 148) % 10 < c 1 ∧ (i - 148) / 10 < c 1) from fun e => q8 ⟨e.2.2.1, e.2.2.2⟩)]
              by_cases q9 : (i - 148) % 10 < c 1
              · have : owe c L ((i - 148) / 10) = 0 := by
                  unfold owe
                  rw [tb_big hL (by omega)]
                  rfl
                rw [this]
                split <;> rfl
              · rw [tb_big hP (by omega)]
                rfl
          · rw [if_neg q7, if_neg (show ¬ (38 ≤ i ∧ i < 88 ∧ (i - 38) % 5 = 4 ∧ (i - 38) / 5 < c 1) from fun e => q5 ⟨e.1, e.2.1, e.2.2.1⟩), if_neg (show ¬ (148 ≤ i ∧ i < 248 ∧ (i - 148) % 10 < c 1 ∧ (i - 148) / 10 < c 1) from fun e => q7 ⟨e.1, e.2.1⟩)]
theorem r_move {Y : Mem} {c : Nat → Nat} {T L P m : Nat} (h : EY Y c) (hw : WR c) (hb : WB T c) (hT : T + 1 ≤ 520) (hL : L < 2 ^ c 1) (hP : P < 2 ^ c 1) (hm : m ≤ 4000) (hm0 : Y 0 17 = nI m) : ∃ Y', md_cross_J27 (nI L) (nI P) (nI 0) Y = some (nI m, Y') ∧ EY Y' (goC (crsC c L P) m) ∧ Y' 0 0 = nI 0 ∧ (∀ r i, ¬ r = 1 → ¬ (r = 0 ∧ i = 0) → Y' r i = Y r i) := by
  have h10 := WR_n hw
  have h3 := hb.2.1
  have hc1 : ∀ i, rc i → (up (up (up c 4 (c 4 ^^^ L)) 3 (1 - c 3)) 10 (c 10 + 1)) i = c i := fun i hi => by
    unfold rc at hi
    rw [up_ne (by omega), up_ne (by omega), up_ne (by omega)]
  have eU : up (up (up c 4 (c 4 ^^^ L)) 3 (1 - c 3)) 10 (c 10 + 1) 1 = c 1 := hc1 1 (by unfold rc; omega)
  have hE0 : EY (wr Y 0 0 (nI 0)) c := EY_fr h fun i => wr_ne (by omega)
  have hE1 : EY (wr (wr Y 0 0 (nI 0)) 1 4 (nI (c 4 ^^^ L))) (up c 4 (c 4 ^^^ L)) := EY_up _ hE0 (by omega) (by omega)
  have hE2 : EY (wr (wr (wr Y 0 0 (nI 0)) 1 4 (nI (c 4 ^^^ L))) 1 3 (nI (1 - c 3))) (up (up c 4 (c 4 ^^^ L)) 3 (1 - c 3)) := EY_up _ hE1 (by omega) (by omega)
  have hE3 : EY (wr (wr (wr (wr Y 0 0 (nI 0)) 1 4 (nI (c 4 ^^^ L))) 1 3 (nI (1 - c 3))) 1 10 (nI (c 10 + 1))) (ckK (up (up (up c 4 (c 4 ^^^ L)) 3 (1 - c 3)) 10 (c 10 + 1)) L P 0) := EY_wr hE2 (by omega) (by omega) (fun i _ q => by
    unfold ckK
    rw [if_neg (by omega), if_neg (by omega), up_ne q]) (by
    unfold ckK
    rw [if_neg (by omega), if_neg (by omega), up_eq])
  obtain ⟨M1, g1, g2, g3⟩ := rC_L (WR_c hw hc1) (L := L) (P := P) (y3 := nI m) (K := fun M16 => (md_goOn (nI m) M16).bind fun M17 => some (nI m, M17)) (c 1) 0 FU _ (by rw [eU]; omega) (by rw [FUe]; omega) hE3
  rw [eU] at g2
  have hE4 : EY M1 (crsC c L P) := EY_c g2 fun i hi => ckK_eq hw hL hP i hi
  have hbC : WB (T + 1) (crsC c L P) := crsC_WB0 hb hL hP
  obtain ⟨Y', f1, f2, f3⟩ := r_goOn hE4 (WR_c hw fun i hi => crsC_rc i hi) hbC hT hm
  refine ⟨Y', ?_, f2, ?_, fun r i hr hr2 => ?_⟩
  · unfold md_cross_J27
    simp only [lt1_ap]
    rw [wr_eq, if_neg (show ¬ (0 : Int32) < nI 0 from Int32.lt_irrefl)]
    simp only [n_lit]
    rw [EY_n hE0 (i := 4) (by omega) (by omega), n_xor, EY_n hE1 (i := 3) (by omega) (by omega), up_ne (by omega), n_sub (by omega), EY_n hE2 (i := 10) (by omega) (by omega), up_ne (by omega), up_ne (by omega), n_add, wr_ne (M := Y) (by omega), hm0]
    rw [g1, f1]
    rfl
  · rw [f3 _ _ (by omega), g3 _ _ (by omega), wr_ne (by omega), wr_ne (by omega), wr_ne (by omega), wr_eq]
  · rw [f3 _ _ hr, g3 _ _ hr, wr_ne (by omega), wr_ne (by omega), wr_ne (by omega), wr_ne (by omega)]
theorem m_cross {T : Nat} {X Y : Mem} {c : Nat → Nat} (h : SV T X Y c) (hT : T + 1 ≤ 520) (p1 p2 : Int32) : ∃ e v X' u Y' c', rf_cross p1 p2 X = some (e, v, X') ∧ md_cross p1 p2 Y = some (u, Y') ∧ ((e = 0 ∧ Y' 0 0 = 0 ∧ v = u) ∨ (¬ e = 0 ∧ e = 5 ∧ Y' 0 0 = 1)) ∧ Out (T + 1) X Y X' Y' c c' := by
  have hLV := SV_LV h (by omega)
  obtain ⟨hR, hB, hw, hb, hY, hz⟩ := id h
  obtain ⟨X1, e1, e2, e3, e4, e5⟩ := k_prepare hLV hz
  obtain ⟨L, hL, rfl⟩ := n_of p1
  obtain ⟨P, hP, rfl⟩ := n_of p2
  have h10 := pw_10 (WR_n hw)
  have h3 := hb.2.1
  have h4 : c 4 < 2 ^ c 1 := hb.2.2.1
  have hs : (2 * c 4 + c 3) / 2 = c 4 := by omega
  have hs2 : (2 * c 4 + c 3) % 2 = c 3 := by omega
  have k1 := k_crossing e2 (s := 2 * c 4 + c 3) (L := L) (P := P) (by omega) hL hP
  rw [hs, hs2] at k1
  have r1 := r_cross hY hw hb (by omega) (ov := c 4) (bk := c 3) h4 (by omega) hL hP
  have hm := crs_le hw (ov := c 4) (bk := c 3) (ld := L) (pl := P)
  by_cases q : crs c (c 4) (c 3) L P = 0
  · refine ⟨5, 0, X1, 0, wr Y 0 0 1, c, ?_, ?_, Or.inr ⟨by decide, rfl, wr_eq⟩, Out_same h e5 e4 (fun r i hr => wr_ne (by omega))⟩
    · unfold rf_cross
      rw [e1]
      simp only [Option.bind_some]
      rw [k_state e3.2.1 h3 (by omega)]
      simp only [Option.bind_some]
      rw [k1, q]
      rfl
    · unfold md_cross
      rw [EY_n hY (i := 4) (by omega) (by omega), EY_n hY (i := 3) (by omega) (by omega), r1, q]
      rfl
  · obtain ⟨q1, q2⟩ := crs_sub q
    have l1 := sub_lt q1 (here_lt (bk := c 3) hw h4)
    have l2 := sub_lt q2 (there_lt _ hw)
    obtain ⟨X2, f1, f2, f3⟩ := k_note (P := P) e3.2.1 h3 l1
    have hbC : WB (T + 1) (crsC c L P) := crsC_WB0 hb l1 l2
    obtain ⟨X3, g1, g2, g3⟩ := k_pass f2 hbC hT (m := crs c (c 4) (c 3) L P) (by omega)
    have hYr : rY Y (crs c (c 4) (c 3) L P) = wr Y 0 17 (nI (crs c (c 4) (c 3) L P)) := if_neg q
    obtain ⟨Y', k2, k3, k4, k5⟩ := r_move (Y := wr Y 0 17 (nI (crs c (c 4) (c 3) L P))) (EY_fr hY fun i => wr_ne (by omega)) hw hb hT l1 l2 (m := crs c (c 4) (c 3) L P) (by omega) wr_eq
    have hrc : ∀ i, rc i → goC (crsC c L P) (crs c (c 4) (c 3) L P) i = c i := fun i hi => by rw [goC_rc i hi, crsC_rc i hi]
    have frX : ∀ r i, ¬ (30 ≤ r ∧ r < 43) → ¬ (75 ≤ r ∧ r ≤ 79) → X3 r i = X r i := fun r i h1 h2 => by
      rw [g3 r i (by omega), f3 r i h1, e5 r i h2]
    refine ⟨0, nI (crs c (c 4) (c 3) L P), X3, nI (crs c (c 4) (c 3) L P), Y', goC (crsC c L P) (crs c (c 4) (c 3) L P), ?_, ?_, Or.inl ⟨rfl, k4, rfl⟩, ⟨⟨?_, g2, WR_c hw hrc, crsC_WB hb l1 l2 (by omega), k3, ?_⟩, fun r i hr => frX r i (by omega) (by omega), fun r i hr => ?_, fun i hi => ?_⟩⟩
    · unfold rf_cross
      rw [e1]
      simp only [Option.bind_some]
      rw [k_state e3.2.1 h3 (by omega)]
      simp only [Option.bind_some]
      rw [k1]
      simp only [Option.bind_some]
      unfold mI
      rw [if_neg q, if_neg (nI_nm (by omega)), k_debt e3.1 hw]
      simp only [Option.bind_some]
      rw [f1]
      simp only [Option.bind_some]
      rw [g1]
      rfl
    · unfold md_cross
      rw [EY_n hY (i := 4) (by omega) (by omega), EY_n hY (i := 3) (by omega) (by omega), r1, hYr]
      unfold bnd2
      simp only
      rw [ifb_t (decide_eq_true q)]
      exact k2
    · exact XR_c (XR_cong hR fun r i _ _ => frX r i (by omega) (by omega)) hw hrc
    · refine ⟨?_, ?_, ?_⟩
      · rw [g3 _ _ (by omega), f3 _ _ (by omega)]; exact e4.1
      · rw [g3 _ _ (by omega), f3 _ _ (by omega)]; exact e4.2.1
      · rw [g3 _ _ (by omega), f3 _ _ (by omega)]; exact e4.2.2
    · rw [k5 r i (by omega) (by omega), wr_ne (by omega)]
    · unfold goC
      rw [if_neg (by omega), if_neg (by omega)]
      unfold crsC
      rw [if_neg (by omega), if_neg (by omega), if_neg (by omega), if_neg (by omega), if_neg (by omega)]
