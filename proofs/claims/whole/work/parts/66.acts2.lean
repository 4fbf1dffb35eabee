/-! swim, rest, look, owed, count -/
theorem swm_le {c : Nat → Nat} {ov b : Nat} (hw : WR c) : swm c ov b ≤ 69 := by
  have h1 : c 7 ≤ 60 := hw.2.2.2.2.1.2
  have h2 := sr_le hw
  unfold swm
  split <;> omega
theorem swm_eq {c : Nat → Nat} {ov b : Nat} (h : ¬ swm c ov b = 0) : swm c ov b = c 7 + sr c := by
  unfold swm at h ⊢
  by_cases q : sm c b = 1 ∧ sr c ≤ fo c b ∧ co c b (c 13) = 0 ∧ may c (sd (frm c ov b) (2 ^ b)) = true ∧ may c (sd (al c) (frm c ov b)) = true ∧ may c (sd (al c) (frm c ov b) ||| 2 ^ b) = true
  · rw [if_pos q]
  · rw [if_neg q] at h
    exact absurd rfl h
theorem swmC_rc {c : Nat → Nat} {b : Nat} (hb : b < 10) (i : Nat) (h : rc i) : swmC c b i = c i := by
  unfold rc at h
  unfold swmC
  rw [if_neg (by omega), if_neg (by omega), if_neg (by omega)]
theorem swmC_WB {c : Nat → Nat} {T b : Nat} (hb : WB T c) (hn : b < c 1) (h10 : c 1 ≤ 10) : WB (T + 1) (swmC c b) := by
  obtain ⟨h0, h1, h2, h3, h4, h5, h6⟩ := hb
  have e1 : swmC c b 1 = c 1 := swmC_rc (by omega) 1 (by unfold rc; omega)
  refine ⟨?_, ?_, ?_, ?_, ?_, fun a ha => ?_, fun a d ha hd => ?_⟩
  · have : swmC c b 2 = c 2 := by unfold swmC; rw [if_neg (by omega), if_neg (by omega), if_neg (by omega)]
    omega
  · have : swmC c b 3 = c 3 := by unfold swmC; rw [if_neg (by omega), if_neg (by omega), if_neg (by omega)]
    omega
  · rw [e1]
    exact xor_lt h2 (pw_lt hn)
  · have : swmC c b 10 = c 10 := by unfold swmC; rw [if_neg (by omega), if_neg (by omega), if_neg (by omega)]
    omega
  · have : swmC c b 11 = c 11 + 1 := rfl
    omega
  · have := h5 a ha
    rw [e1]
    by_cases q : a = b
    · have e : td (swmC c b) a = td c a + 2 := by
        unfold td swmC
        rw [if_neg (by omega), if_neg (by omega), if_pos (by omega)]
      rw [e]
      exact ⟨by omega, fun q2 => absurd q2 (by omega)⟩
    · have e : td (swmC c b) a = td c a := by
        unfold td swmC
        rw [if_neg (by omega), if_neg (by omega), if_neg (by omega)]
      rw [e]
      exact ⟨by omega, this.2⟩
  · have := h6 a d ha hd
    have e : pu (swmC c b) a d = pu c a d := by
      unfold pu swmC
      rw [if_neg (by omega), if_neg (by omega), if_neg (by omega)]
    rw [e1, e]
    exact ⟨by omega, this.2⟩
theorem go_swm_WB {c : Nat → Nat} {T b m : Nat} (hb : WB T c) (hn : b < c 1) (h10 : c 1 ≤ 10) (hm : m ≤ 4000) : WB (T + 1) (goC (swmC c b) m) := by
  have h := swmC_WB hb hn h10
  have hb2 : swmC c b 2 = c 2 := by unfold swmC; rw [if_neg (by omega), if_neg (by omega), if_neg (by omega)]
  have hc2 := hb.1
  obtain ⟨h0, h1, h2, h3, h4, h5, h6⟩ := h
  have e1 : goC (swmC c b) m 1 = swmC c b 1 := goC_rc 1 (by unfold rc; omega)
  refine ⟨?_, ?_, ?_, ?_, ?_, fun b' hb' => ?_, fun a b' ha hb' => ?_⟩
  · have : goC (swmC c b) m 2 = swmC c b 2 + m := rfl
    omega
  · exact h1
  · rw [e1]; exact h2
  · exact h3
  · exact h4
  · have := h5 b' hb'
    have e : td (goC (swmC c b) m) b' = td (swmC c b) b' - ((swmC c b 2 + m) / 60 - swmC c b 2 / 60) := by
      unfold td goC
      rw [if_neg (by omega), if_pos (by omega)]
    rw [e1, e]
    refine ⟨by omega, fun q => ?_⟩
    rw [this.2 q]
    omega
  · have := h6 a b' ha hb'
    have e : pu (goC (swmC c b) m) a b' = pu (swmC c b) a b' := by
      unfold pu goC
      rw [if_neg (by omega), if_neg (by omega)]
    rw [e1, e]
    exact this
theorem k_noteSwim {X : Mem} {c : Nat → Nat} {b : Nat} (h : XB 30 X c) (hb : b < 10) : ∃ X', bk_noteSwim 30 (nI b) X = some X' ∧ XB 30 X' (swmC c b) ∧ (∀ r i, ¬ (30 ≤ r ∧ r < 43) → X' r i = X r i) := by
  obtain ⟨h0, h1, h2, h3', h4, h5, h6⟩ := h
  refine ⟨wr (wr (wr X 30 0 (nI (c 4 ^^^ 2 ^ b))) 30 4 (nI (c 11 + 1))) 31 b (nI (td c b + 2)), ?_, ⟨?_, ?_, ?_, ?_, ?_, fun a ha => ?_, fun a d ha hd => ?_⟩, fun r i hr => ?_⟩
  · unfold bk_noteSwim
    simp (disch := omega) only [n_lit, lt1_ap, n_m31, n_shl1, chk_in, n_cl]
    rw [h0, n_xor, wr_ne (M := X) (by omega), h4, n_add, wr_ne (M := wr X 30 0 (nI (c 4 ^^^ 2 ^ b))) (by omega), wr_ne (M := X) (by omega), h5 b hb, n_add]
  · rw [wr_ne (by omega), wr_ne (by omega), wr_eq]
    rfl
  · rw [wr_ne (by omega), wr_ne (by omega), wr_ne (by omega), h1]
    unfold swmC
    rw [if_neg (by omega), if_neg (by omega), if_neg (by omega)]
  · rw [wr_ne (by omega), wr_ne (by omega), wr_ne (by omega), h2]
    unfold swmC
    rw [if_neg (by omega), if_neg (by omega), if_neg (by omega)]
  · rw [wr_ne (by omega), wr_ne (by omega), wr_ne (by omega), h3']
    unfold swmC
    rw [if_neg (by omega), if_neg (by omega), if_neg (by omega)]
  · rw [wr_ne (by omega), wr_eq]
    rfl
  · by_cases q : a = b
    · rw [q, wr_eq]
      unfold td swmC
      rw [if_neg (by omega), if_neg (by omega), if_pos (by omega)]
    · rw [wr_ne (by omega), wr_ne (by omega), wr_ne (by omega), h5 a ha]
      unfold td swmC
      rw [if_neg (by omega), if_neg (by omega), if_neg (by omega)]
  · rw [wr_ne (by omega), wr_ne (by omega), wr_ne (by omega), h6 a d ha hd]
    unfold pu swmC
    rw [if_neg (by omega), if_neg (by omega), if_neg (by omega)]
  · rw [wr_ne (by omega), wr_ne (by omega), wr_ne (by omega)]
theorem nodec {n : Nat} (p : Int32) : (∃ b, b < n ∧ p = nI b) ∨ ∀ b, b < n → p ≠ nI b := by
  by_cases h : ∃ b, b < n ∧ p = nI b
  · exact Or.inl h
  · exact Or.inr fun b hb e => h ⟨b, hb, e⟩
theorem m_swim {T : Nat} {X Y : Mem} {c : Nat → Nat} (h : SV T X Y c) (hT : T + 1 ≤ 520) (p : Int32) : ∃ e v X' u Y' c', rf_swim p X = some (e, v, X') ∧ md_swim p Y = some (u, Y') ∧ ((e = 0 ∧ Y' 0 0 = 0 ∧ v = u) ∨ (¬ e = 0 ∧ e = 3 ∧ Y' 0 0 = 1) ∨ (¬ e = 0 ∧ ¬ e = 3 ∧ e = 5 ∧ Y' 0 0 = 2)) ∧ Out (T + 1) X Y X' Y' c c' := by
  have hLV := SV_LV h (by omega)
  obtain ⟨hR, hB, hw, hb, hY, hz⟩ := id h
  have hn := WR_n hw
  have h10 := pw_10 hn
  rcases nodec (n := c 1) p with ⟨b, hbn, rfl⟩ | hno
  · obtain ⟨X1, e1, e2, e3, e4, e5⟩ := k_prepare hLV hz
    have h3 := hb.2.1
    have h4 : c 4 < 2 ^ c 1 := hb.2.2.1
    have hs : (2 * c 4 + c 3) / 2 = c 4 := by omega
    have k1 := k_swim e2 (s := 2 * c 4 + c 3) (b := b) (by omega) hbn
    rw [hs] at k1
    have r1 := r_swim hY hw hb (by omega) (ov := c 4) (b := b) h4 hbn
    have hm := swm_le hw (ov := c 4) (b := b)
    by_cases q : swm c (c 4) b = 0
    · refine ⟨5, 0, X1, 0, wr Y 0 0 2, c, ?_, ?_, Or.inr (Or.inr ⟨by decide, by decide, rfl, wr_eq⟩), Out_same h e5 e4 (fun r i hr => wr_ne (by omega))⟩
      · unfold rf_swim
        rw [k_hasYes hR.2.1 hw hbn]
        simp only [Option.bind_some]
        rw [if_neg (by decide), e1]
        simp only [Option.bind_some]
        rw [k_state e3.2.1 h3 (by omega)]
        simp only [Option.bind_some]
        rw [k1, q]
        rfl
      · unfold md_swim
        rw [r_isBYes hY hw hbn]
        simp only [Option.bind_some]
        rw [if_neg (by decide), EY_n hY (i := 4) (by omega) (by omega), r1, q]
        rfl
    · have hme := swm_eq q
      obtain ⟨X2, f1, f2, f3⟩ := k_noteSwim (b := b) e3.2.1 (by omega)
      obtain ⟨X3, g1, g2, g3⟩ := k_pass f2 (swmC_WB hb hbn hn) hT (m := swm c (c 4) b) (by omega)
      have hE0 : EY (wr Y 0 0 (nI 0)) c := EY_fr hY fun i => wr_ne (by omega)
      have hE1 : EY (wr (wr Y 0 0 (nI 0)) 1 4 (nI (c 4 ^^^ 2 ^ b))) (up c 4 (c 4 ^^^ 2 ^ b)) := EY_up _ hE0 (by omega) (by omega)
      have hE2 : EY (wr (wr (wr Y 0 0 (nI 0)) 1 4 (nI (c 4 ^^^ 2 ^ b))) 1 11 (nI (c 11 + 1))) (up (up c 4 (c 4 ^^^ 2 ^ b)) 11 (c 11 + 1)) := EY_up _ hE1 (by omega) (by omega)
      have hE3 : EY (wr (wr (wr (wr Y 0 0 (nI 0)) 1 4 (nI (c 4 ^^^ 2 ^ b))) 1 11 (nI (c 11 + 1))) 1 (38 + 5 * b + 4) (nI (td c b + 2))) (swmC c b) := EY_wr hE2 (by omega) (by omega) (fun i _ q => by
        unfold swmC
        rw [if_neg q]
        by_cases q1 : i = 4
        · subst q1
          rfl
        · rw [if_neg q1]
          by_cases q11 : i = 11
          · subst q11
            rfl
          · rw [if_neg q11, up_ne q11, up_ne q1]) (by
        unfold swmC
        rw [if_neg (by omega), if_neg (by omega), if_pos rfl])
      obtain ⟨Y', k2, k3, k5⟩ := r_goOn hE3 (WR_c hw fun i hi => swmC_rc (by omega) i hi) (swmC_WB hb hbn hn) hT (m := swm c (c 4) b) (by omega)
      have hrc : ∀ i, rc i → goC (swmC c b) (swm c (c 4) b) i = c i := fun i hi => by rw [goC_rc i hi, swmC_rc (by omega) i hi]
      have frX : ∀ r i, ¬ (30 ≤ r ∧ r < 43) → ¬ (75 ≤ r ∧ r ≤ 79) → X3 r i = X r i := fun r i h1 h2 => by
        rw [g3 r i (by omega), f3 r i h1, e5 r i h2]
      refine ⟨0, nI (swm c (c 4) b), X3, nI (swm c (c 4) b), Y', goC (swmC c b) (swm c (c 4) b), ?_, ?_, Or.inl ⟨rfl, ?_, rfl⟩, ⟨⟨?_, g2, WR_c hw hrc, go_swm_WB hb hbn hn (by omega), k3, ?_⟩, fun r i hr => frX r i (by omega) (by omega), fun r i hr => ?_, fun i hi => ?_⟩⟩
      · unfold rf_swim
        rw [k_hasYes hR.2.1 hw hbn]
        simp only [Option.bind_some]
        rw [if_neg (by decide), e1]
        simp only [Option.bind_some]
        rw [k_state e3.2.1 h3 (by omega)]
        simp only [Option.bind_some]
        rw [k1]
        simp only [Option.bind_some]
        unfold mI
        rw [if_neg q, if_neg (nI_nm (by omega)), f1]
        simp only [Option.bind_some]
        rw [g1]
        rfl
      · unfold md_swim
        rw [r_isBYes hY hw hbn]
        simp only [Option.bind_some]
        rw [if_neg (by decide), EY_n hY (i := 4) (by omega) (by omega), r1]
        simp only [Option.bind_some]
        rw [ifb_t (decide_eq_true q)]
        unfold md_swim_J32
        simp only [n_lit, lt1_ap, wr_eq]
        rw [if_neg (Int32.lt_irrefl), r_stream hE0 hb (by omega)]
        simp (disch := omega) only [Option.bind_some, n_m31, n_shl1, n_mul, n_add, chk_in, n_cl]
        rw [EY_n hE0 (i := 4) (by omega) (by omega), n_xor, EY_n hE1 (i := 11) (by omega) (by omega), up_ne (by omega), n_add, EY_n hE2 (i := 38 + 5 * b + 4) (by omega) (by omega), up_ne (by omega), up_ne (by omega), n_add, EY_n hE0 (i := 7) (by omega) (by omega), n_add, ← hme, k2]
        rfl
      · rw [k5 _ _ (by omega), wr_ne (by omega), wr_ne (by omega), wr_ne (by omega), wr_eq]
        rfl
      · exact XR_c (XR_cong hR fun r i _ _ => frX r i (by omega) (by omega)) hw hrc
      · refine ⟨?_, ?_, ?_⟩
        · rw [g3 _ _ (by omega), f3 _ _ (by omega)]; exact e4.1
        · rw [g3 _ _ (by omega), f3 _ _ (by omega)]; exact e4.2.1
        · rw [g3 _ _ (by omega), f3 _ _ (by omega)]; exact e4.2.2
      · rw [k5 r i (by omega), wr_ne (by omega), wr_ne (by omega), wr_ne (by omega), wr_ne (by omega)]
      · unfold goC
        rw [if_neg (by omega), if_neg (by omega)]
        unfold swmC
        rw [if_neg (by omega), if_neg (by omega), if_neg (by omega)]
  · refine ⟨3, 0, X, 0, wr Y 0 0 1, c, ?_, ?_, Or.inr (Or.inl ⟨by decide, rfl, wr_eq⟩), Out_same h (fun r i _ => rfl) hz (fun r i hr => wr_ne (by omega))⟩
    · unfold rf_swim
      rw [k_hasNo hR.2.1 hw hno]
      rfl
    · unfold md_swim
      rw [r_isBNo hY hw hno]
      rfl
theorem m_rest {T : Nat} {X Y : Mem} {c : Nat → Nat} (h : SV T X Y c) (hT : T + 1 ≤ 520) (p : Int32) : ∃ e v X' u Y' c', rf_rest p X = some (e, v, X') ∧ md_rest p Y = some (u, Y') ∧ ((e = 0 ∧ Y' 0 0 = 0 ∧ v = u) ∨ (¬ e = 0 ∧ e = 1 ∧ Y' 0 0 = 1)) ∧ Out (T + 1) X Y X' Y' c c' := by
  obtain ⟨hR, hB, hw, hb, hY, hz⟩ := id h
  have hn := WR_n hw
  have no : ∀ (A : p < 1 ∨ 600 < p), ∃ e v X' u Y' c', rf_rest p X = some (e, v, X') ∧ md_rest p Y = some (u, Y') ∧ ((e = 0 ∧ Y' 0 0 = 0 ∧ v = u) ∨ (¬ e = 0 ∧ e = 1 ∧ Y' 0 0 = 1)) ∧ Out (T + 1) X Y X' Y' c c' := fun A => by
    refine ⟨1, 0, X, 0, wr Y 0 0 1, c, ?_, ?_, Or.inr ⟨by decide, rfl, wr_eq⟩, Out_same h (fun r i _ => rfl) hz (fun r i hr => wr_ne (by omega))⟩
    · unfold rf_rest
      by_cases q : p < 1
      · rw [if_pos q]
      · rw [if_neg q, if_pos (A.resolve_left q)]
    · unfold md_rest md_isIn
      by_cases q : p < 1
      · rw [if_pos q]
        rfl
      · rw [if_neg q, if_pos (A.resolve_left q)]
        rfl
  by_cases q1 : p < 1
  · exact no (Or.inl q1)
  · by_cases q2 : 600 < p
    · exact no (Or.inr q2)
    · obtain ⟨m, hm, rfl⟩ : ∃ m : Nat, m ≤ 600 ∧ p = nI m := nI_of2 (M := 600) (n := 600) rfl (fun e => q1 (by
        rw [Int32.lt_iff_toInt_lt] at e ⊢
        have a0 : (0 : Int32).toInt = 0 := rfl
        have a1 : (1 : Int32).toInt = 1 := rfl
        omega)) (Int32.not_lt.mp q2)
      obtain ⟨X3, g1, g2, g3⟩ := k_pass hB hb (by omega) (m := m) (by omega)
      have hE0 : EY (wr Y 0 0 (nI 0)) c := EY_fr hY fun i => wr_ne (by omega)
      obtain ⟨Y', k2, k3, k5⟩ := r_goOn hE0 hw hb (by omega) (m := m) (by omega)
      have hrc : ∀ i, rc i → goC c m i = c i := fun i hi => goC_rc i hi
      have e2 : goC c m 2 = c 2 + m := rfl
      refine ⟨0, nI (c 2 + m), X3, nI (c 2 + m), Y', goC c m, ?_, ?_, Or.inl ⟨rfl, ?_, rfl⟩, ⟨⟨?_, g2, WR_c hw hrc, goC_WB hb (by omega), k3, ?_⟩, fun r i hr => g3 r i (by omega), fun r i hr => ?_, fun i hi => ?_⟩⟩
      · unfold rf_rest
        rw [if_neg q1, if_neg q2, g1]
        simp only [Option.bind_some]
        rw [g2.2.2.1, e2]
      · unfold md_rest md_isIn
        rw [if_neg q1, if_neg q2]
        unfold md_rest_J17
        simp only [n_lit, Option.bind_some, lt1_ap, wr_eq]
        rw [if_neg (show ¬ nI 1 = nI 0 by decide), if_neg (Int32.lt_irrefl), k2]
        simp only [Option.bind_some]
        rw [EY_n k3 (i := 2) (by omega) (by omega), e2]
      · rw [k5 _ _ (by omega), wr_eq]
        rfl
      · exact XR_c (XR_cong hR fun r i _ _ => g3 r i (by omega)) hw hrc
      · refine ⟨?_, ?_, ?_⟩
        · rw [g3 _ _ (by omega)]; exact hz.1
        · rw [g3 _ _ (by omega)]; exact hz.2.1
        · rw [g3 _ _ (by omega)]; exact hz.2.2
      · rw [k5 r i (by omega), wr_ne (by omega)]
      · unfold goC
        rw [if_neg (by omega), if_neg (by omega)]
/-! what is owed one -/
theorem Int32_sum4 (v a b : Int32) : v + (a - b) = v + (a - b) := rfl
def bal (c : Nat → Nat) (b : Nat) : Nat → Int
  | 0 => 0
  | k + 1 => bal c b k + ((pu c k b : Int) - (pu c b k : Int))
def zI (z : Int) : Int32 := Int32.ofInt z
theorem zI_n (n : Nat) : zI (n : Int) = nI n := by
  unfold zI nI
  exact Int32.ofInt_eq_ofNat
theorem zI_add (a b : Int) : zI a + zI b = zI (a + b) := (Int32.ofInt_add a b).symm
theorem zI_sub (a b : Int) : zI a - zI b = zI (a - b) := (Int32.ofInt_sub a b).symm
theorem zI_to {z : Int} (h1 : -2147483648 ≤ z) (h2 : z < 2147483648) : (zI z).toInt = z := by
  exact Int32.toInt_ofInt.trans (show z.bmod 4294967296 = z from Int.bmod_eq_of_le (by omega) (by omega))
theorem bal_big {c : Nat → Nat} {T b : Nat} (hb : WB T c) (h10 : b < 10) : ∀ {k : Nat}, c 1 ≤ k → k ≤ 10 → bal c b k = bal c b (c 1)
  | 0, h, _ => by rw [show c 1 = 0 by omega]
  | k + 1, h, h2 => by
    by_cases q : c 1 = k + 1
    · rw [q]
    · have ih := bal_big hb h10 (k := k) (by omega) (by omega)
      have e1 := (hb.2.2.2.2.2.2 k b (by omega) h10).2 (by omega)
      have e2 := (hb.2.2.2.2.2.2 b k h10 (by omega)).2 (by omega)
      show bal c b k + ((pu c k b : Int) - (pu c b k : Int)) = _
      rw [ih, e1, e2]
      omega
theorem k_bal_L {X : Mem} {c : Nat → Nat} {b : Nat} (h : XB 30 X c) (hb : b < 10) {K : Int32 → Option Int32} : ∀ m k fu, k + m = 10 → m < fu → bk_balanceOf_L4 30 (nI b) X K fu (zI (bal c b k)) (nI k) = K (zI (bal c b 10))
  | 0, k, 0, _, hf => absurd hf (by omega)
  | 0, k, fu + 1, hk, _ => by
    rw [bk_balanceOf_L4]
    simp (disch := omega) only [n_lit, n_lt, if_neg]
    rw [show k = 10 by omega]
  | m + 1, k, 0, _, hf => absurd hf (by omega)
  | m + 1, k, fu + 1, hk, hf => by
    have ih := k_bal_L h hb (K := K) m (k + 1) fu (by omega) (by omega)
    have e1 : X (30 + 2 + 1 + k) b = nI (pu c k b) := h.2.2.2.2.2.2 k b (by omega) hb
    have e2 : X (30 + 2 + 1 + b) k = nI (pu c b k) := h.2.2.2.2.2.2 b k hb (by omega)
    rw [bk_balanceOf_L4, ← ih]
    simp (disch := omega) only [n_lit, n_lt, if_pos, chk_in, n_cl, n_add, lt1_ap]
    rw [show X (30 + 2 + 1 + k) b = nI (pu c k b) from e1, show X (30 + 2 + 1 + b) k = nI (pu c b k) from e2, ← zI_n (pu c k b), ← zI_n (pu c b k), zI_sub, zI_add]
    rfl
theorem k_bal {X : Mem} {c : Nat → Nat} {b T : Nat} (h : XB 30 X c) (hT : WB T c) (hn : c 1 ≤ 10) (hb : b < 10) : bk_balanceOf 30 (nI b) X = some (zI (bal c b (c 1))) := by
  rw [← bal_big hT hb hn (Nat.le_refl 10)]
  exact k_bal_L h hb (K := fun v => some v) 10 0 FU (by omega) (by rw [FUe]; omega)
theorem r_bal_L {Y : Mem} {c : Nat → Nat} {b : Nat} (h : EY Y c) (hw : WR c) (hb : b < 10) {K : Int32 → Option Int32} : ∀ m k fu, k + m = c 1 → m < fu → md_balanceOf_L4 (nI b) Y K fu (zI (bal c b k)) (nI k) = K (zI (bal c b (c 1)))
  | 0, k, 0, _, hf => absurd hf (by omega)
  | 0, k, fu + 1, hk, _ => by
    have h10 := WR_n hw
    rw [md_balanceOf_L4, EY_n h (i := 1) (by omega) (by omega)]
    simp (disch := omega) only [n_lit, n_lt, if_neg]
    rw [show k = c 1 by omega]
  | m + 1, k, 0, _, hf => absurd hf (by omega)
  | m + 1, k, fu + 1, hk, hf => by
    have h10 := WR_n hw
    have ih := r_bal_L h hw hb (K := K) m (k + 1) fu (by omega) (by omega)
    rw [md_balanceOf_L4, ← ih, EY_n h (i := 1) (by omega) (by omega)]
    simp (disch := omega) only [n_lit, n_mul, n_lt, if_pos, n_add, chk_in, n_cl, lt1_ap]
    rw [EY_n h (i := 148 + 10 * k + b) (by omega) (by omega), EY_n h (i := 148 + 10 * b + k) (by omega) (by omega), ← zI_n (c (148 + 10 * k + b)), ← zI_n (c (148 + 10 * b + k)), zI_sub, zI_add]
    rfl
theorem r_bal {Y : Mem} {c : Nat → Nat} {b : Nat} (h : EY Y c) (hw : WR c) (hb : b < 10) : md_balanceOf (nI b) Y = some (zI (bal c b (c 1))) := by
  have h10 := WR_n hw
  exact r_bal_L h hw hb (K := fun v => some v) (c 1) 0 FU (by omega) (by rw [FUe]; omega)
theorem m_owed {T : Nat} {X Y : Mem} {c : Nat → Nat} (h : SV T X Y c) (p1 p2 : Int32) : ∃ e v u Y', rf_owed p1 p2 X = some (e, v, X) ∧ md_owed p1 p2 Y = some (u, Y') ∧ ((e = 0 ∧ Y' 0 0 = 0 ∧ v = u) ∨ (¬ e = 0 ∧ e = 3 ∧ Y' 0 0 = 1)) ∧ (∀ r i, ¬ (r = 0 ∧ i = 0) → Y' r i = Y r i) := by
  obtain ⟨hR, hB, hw, hb, hY, hz⟩ := id h
  have hn := WR_n hw
  rcases nodec (n := c 1) p1 with ⟨a, ha, rfl⟩ | hno
  · rcases nodec (n := c 1) p2 with ⟨b, hbn, rfl⟩ | hno
    · have hE0 : EY (wr Y 0 0 (nI 0)) c := EY_fr hY fun i => wr_ne (by omega)
      refine ⟨0, nI (pu c a b), nI (pu c a b), wr Y 0 0 0, ?_, ?_, Or.inl ⟨rfl, wr_eq, rfl⟩, fun r i hr => wr_ne (by omega)⟩
      · unfold rf_owed
        rw [k_hasYes hR.2.1 hw ha, k_hasYes hR.2.1 hw hbn]
        simp (disch := omega) only [n_lit, Option.bind_some, n_eq, if_true, if_false, if_neg, chk_in, n_cl]
        rw [← hB.2.2.2.2.2.2 a b (by omega) (by omega)]
      · unfold md_owed
        rw [r_isBYes hY hw ha, r_isBYes hY hw hbn]
        unfold md_owed_J22
        simp (disch := omega) only [n_lit, Option.bind_some, n_eq, if_true, if_false, if_neg, lt1_ap, wr_eq, n_lt, n_mul, n_add, chk_in, n_cl]
        rw [EY_n hE0 (i := 148 + 10 * a + b) (by omega) (by omega)]
    · refine ⟨3, 0, 0, wr Y 0 0 1, ?_, ?_, Or.inr ⟨by decide, rfl, wr_eq⟩, fun r i hr => wr_ne (by omega)⟩
      · unfold rf_owed
        rw [k_hasYes hR.2.1 hw ha, k_hasNo hR.2.1 hw hno]
        rfl
      · unfold md_owed
        rw [r_isBYes hY hw ha, r_isBNo hY hw hno]
        rfl
  · refine ⟨3, 0, 0, wr Y 0 0 1, ?_, ?_, Or.inr ⟨by decide, rfl, wr_eq⟩, fun r i hr => wr_ne (by omega)⟩
    · unfold rf_owed
      rw [k_hasNo hR.2.1 hw hno]
      rfl
    · unfold md_owed
      rw [r_isBNo hY hw hno]
      rfl
theorem m_look {T : Nat} {X Y : Mem} {c : Nat → Nat} (h : SV T X Y c) (hT : T ≤ 520) (p1 p2 : Int32) : ∃ e v u Y', rf_look p1 p2 X = some (e, v, X) ∧ md_look p1 p2 Y = some (u, Y') ∧ ((e = 0 ∧ Y' 0 0 = 0 ∧ v = u) ∨ (¬ e = 0 ∧ e = 3 ∧ Y' 0 0 = 1) ∨ (¬ e = 0 ∧ ¬ e = 3 ∧ e = 4 ∧ Y' 0 0 = 2)) ∧ (∀ r i, ¬ (r = 0 ∧ i = 0) → Y' r i = Y r i) := by
  obtain ⟨hR, hB, hw, hb, hY, hz⟩ := id h
  have hn := WR_n hw
  rcases nodec (n := c 1) p1 with ⟨a, ha, rfl⟩ | hno
  · have hE0 : EY (wr Y 0 0 (nI 0)) c := EY_fr hY fun i => wr_ne (by omega)
    have k0 : rv_hasBeing 6 (nI a) X = some (nI 1) := k_hasYes hR.2.1 hw ha
    have k1 : md_isBeing (nI a) Y = some (nI 1) := r_isBYes hY hw ha
    have hsm := (hw.2.2.2.2.2.2.2.2.1 a ha).2.2.2.2
    rcases nodec (n := 8) p2 with ⟨w, hw8, rfl⟩ | hno2
    · have key : ∀ v, rf_look (nI a) (nI w) X = some (0, v, X) → md_look (nI a) (nI w) Y = some (v, wr Y 0 0 0) → ∃ e v u Y', rf_look (nI a) (nI w) X = some (e, v, X) ∧ md_look (nI a) (nI w) Y = some (u, Y') ∧ ((e = 0 ∧ Y' 0 0 = 0 ∧ v = u) ∨ (¬ e = 0 ∧ e = 3 ∧ Y' 0 0 = 1) ∨ (¬ e = 0 ∧ ¬ e = 3 ∧ e = 4 ∧ Y' 0 0 = 2)) ∧ (∀ r i, ¬ (r = 0 ∧ i = 0) → Y' r i = Y r i) := fun v h1 h2 => ⟨0, v, v, wr Y 0 0 0, h1, h2, Or.inl ⟨rfl, wr_eq, rfl⟩, fun r i hr => wr_ne (by omega)⟩
      have em : md_look (nI a) (nI w) Y = (if nI w < (5 : Int32) then (md_of (nI a) (nI w) (wr Y 0 0 (nI 0))).bind fun v6 => some (v6, wr Y 0 0 (nI 0)) else (if nI w = (5 : Int32) then (md_forceOf (nI a) (wr Y 0 0 (nI 0))).bind fun v5 => some (v5, wr Y 0 0 (nI 0)) else (if nI w = (6 : Int32) then some (((((wr Y 0 0 (nI 0)) 1 4) >>> (nI a &&& 31)) &&& (1 : Int32)), wr Y 0 0 (nI 0)) else (md_balanceOf (nI a) (wr Y 0 0 (nI 0))).bind fun v4 => some (v4, wr Y 0 0 (nI 0))))) := by
        unfold md_look md_isIn
        rw [k1]
        simp (disch := omega) only [n_lit, Option.bind_some, n_eq, if_true, if_false, n_lt, if_neg]
        unfold md_look_J28
        simp (disch := omega) only [n_lit, lt1_ap, wr_eq, n_lt, if_neg, n_eq, if_false]
      have hq : w = 0 ∨ w = 1 ∨ w = 2 ∨ w = 3 ∨ w = 4 ∨ w = 5 ∨ w = 6 ∨ w = 7 := by omega
      have e0 : w < 5 → md_look (nI a) (nI w) Y = some (nI (c (38 + 5 * a + w)), wr Y 0 0 0) := fun h5 => by
        rw [em, if_pos (by rw [n_lit, n_lt (by omega) (by omega)]; exact h5), r_of hE0 (by omega) h5]
        rfl
      rcases hq with rfl | rfl | rfl | rfl | rfl | rfl | rfl | rfl
      · refine key _ ?_ (e0 (by omega))
        unfold rf_look
        rw [k0]
        simp (disch := omega) only [n_lit, Option.bind_some, n_eq, if_true, if_false, if_neg, chk_in, n_cl, if_pos]
        rw [show X 7 a = nI (c (38 + 5 * a + 0)) from (hR.2.2.1 a ha).1]
      · refine key _ ?_ (e0 (by omega))
        unfold rf_look
        rw [k0]
        simp (disch := omega) only [n_lit, Option.bind_some, n_eq, if_true, if_false, if_neg, chk_in, n_cl, if_pos]
        rw [show X 8 a = nI (c (38 + 5 * a + 1)) from (hR.2.2.1 a ha).2.1]
      · refine key _ ?_ (e0 (by omega))
        unfold rf_look
        rw [k0]
        simp (disch := omega) only [n_lit, Option.bind_some, n_eq, if_true, if_false, if_neg, chk_in, n_cl, if_pos]
        rw [show X 9 a = nI (c (38 + 5 * a + 2)) from (hR.2.2.1 a ha).2.2]
      · refine key _ ?_ (e0 (by omega))
        unfold rf_look
        rw [k0, hR.2.2.2.1]
        simp (disch := omega) only [n_lit, Option.bind_some, n_eq, if_true, if_false, if_neg, if_pos, n_m31, n_bit]
        unfold tb
        rw [mk_tb, decide_eq_true ha, Bool.true_and]
        by_cases q : sm c a = 1
        · rw [decide_eq_true q, if_pos rfl, show c (38 + 5 * a + 3) = 1 from q]
        · rw [decide_eq_false q, if_neg (by decide), show c (38 + 5 * a + 3) = 0 by have : ¬ c (38 + 5 * a + 3) = 1 := q; have : c (38 + 5 * a + 3) ≤ 1 := hsm; omega]
      · refine key _ ?_ (e0 (by omega))
        unfold rf_look
        rw [k0]
        simp (disch := omega) only [n_lit, Option.bind_some, n_eq, if_true, if_false, if_neg, chk_in, n_cl, if_pos]
        rw [show X 31 a = nI (c (38 + 5 * a + 4)) from hB.2.2.2.2.2.1 a (by omega)]
      · refine key (nI (fo c a)) ?_ ?_
        · unfold rf_look
          rw [k0, k_force hR hB hw hb hT ha]
          simp (disch := omega) only [n_lit, Option.bind_some, n_eq, if_true, if_false, if_neg, if_pos]
        · rw [em, r_force hE0 hw hb hT ha]
          simp (disch := omega) only [n_lit, Option.bind_some, n_eq, if_true, if_false, n_lt, if_neg, if_pos]
      · refine key (nI (tb (c 4) a)) ?_ ?_
        · unfold rf_look
          rw [k0, hB.1]
          simp (disch := omega) only [n_lit, Option.bind_some, n_eq, if_true, if_false, if_neg, if_pos, n_m31, n_bit]
        · rw [em, EY_n hE0 (i := 4) (by omega) (by omega)]
          simp (disch := omega) only [n_lit, n_eq, if_true, if_false, n_lt, if_neg, if_pos, n_m31, n_bit]
      · refine key (zI (bal c a (c 1))) ?_ ?_
        · unfold rf_look
          rw [k0, k_bal hB hb hn (by omega)]
          simp (disch := omega) only [n_lit, Option.bind_some, n_eq, if_true, if_false, if_neg, if_pos]
        · rw [em, r_bal hE0 hw (by omega)]
          simp (disch := omega) only [n_lit, Option.bind_some, n_eq, if_true, if_false, n_lt, if_neg]
    · refine ⟨4, 0, 0, wr Y 0 0 2, ?_, ?_, Or.inr (Or.inr ⟨by decide, by decide, rfl, wr_eq⟩), fun r i hr => wr_ne (by omega)⟩
      · unfold rf_look
        rw [k0]
        simp only [Option.bind_some, n_lit]
        rw [if_neg (by decide), if_neg (hno2 0 (by omega)), if_neg (hno2 1 (by omega)), if_neg (hno2 2 (by omega)), if_neg (hno2 3 (by omega)), if_neg (hno2 4 (by omega)), if_neg (hno2 5 (by omega)), if_neg (hno2 6 (by omega)), if_neg (hno2 7 (by omega))]
      · unfold md_look md_isIn
        rw [k1]
        simp only [Option.bind_some]
        rw [if_neg (by decide)]
        rcases pk_ix p2 (n := 8) (by omega) with q | q | ⟨j, q, rfl⟩
        · rw [if_pos q]
          rfl
        · by_cases q2 : p2 < 0
          · rw [if_pos q2]
            rfl
          · rw [if_neg q2, if_pos (show (7 : Int32) < p2 by
              rw [Int32.le_iff_toInt_le, n_toI (by omega)] at q
              rw [Int32.lt_iff_toInt_lt, show (7 : Int32).toInt = 7 from rfl]
              omega)]
            rfl
        · exact absurd rfl (hno2 j q)
  · refine ⟨3, 0, 0, wr Y 0 0 1, ?_, ?_, Or.inr (Or.inl ⟨by decide, rfl, wr_eq⟩), fun r i hr => wr_ne (by omega)⟩
    · unfold rf_look
      rw [k_hasNo hR.2.1 hw hno]
      rfl
    · unfold md_look
      rw [r_isBNo hY hw hno]
      rfl
theorem m_count {T : Nat} {X Y : Mem} {c : Nat → Nat} (h : SV T X Y c) (hT : T ≤ 520) (hL : X 58 0 = nI (c 8) - nI 1) (p : Int32) : ∃ v, rf_count p X = some v ∧ md_count p Y = some (v, wr Y 0 0 0) := by
  obtain ⟨hR, hB, hw, hb, hY, hz⟩ := id h
  have hE0 : EY (wr Y 0 0 0) c := EY_fr hY fun i => wr_ne (by omega)
  have hh : hr c < 24 := Nat.mod_lt _ (by decide)
  have hs : X 10 (hr c) = nI (sr c) := hR.2.2.2.2.2.1 _ hh
  have e5 : (bk_hour 30 X).bind (fun v1 => chk (inb v1 24) (some ((X 10 v1.toNatClampNeg)))) = some (nI (sr c)) := by
    rw [k_hour hB hb hT]
    simp (disch := omega) only [Option.bind_some, chk_in, n_cl]
    rw [hs]
  unfold rf_count md_count
  simp only [lt1_ap]
  rw [e5, r_stream hE0 hb hT, hR.2.1, hR.1, hB.2.2.1, hB.2.1, hB.1, hR.2.2.2.2.1.1, hR.2.2.2.2.1.2.1, hR.2.2.2.2.1.2.2, hL, hB.2.2.2.1, hB.2.2.2.2.1]
  rw [EY_n hE0 (i := 0) (by omega) (by omega), EY_n hE0 (i := 1) (by omega) (by omega), EY_n hE0 (i := 2) (by omega) (by omega), EY_n hE0 (i := 3) (by omega) (by omega), EY_n hE0 (i := 4) (by omega) (by omega), EY_n hE0 (i := 5) (by omega) (by omega), EY_n hE0 (i := 6) (by omega) (by omega), EY_n hE0 (i := 7) (by omega) (by omega), EY_d hE0 (i := 8) (by omega), EY_n hE0 (i := 10) (by omega) (by omega), EY_n hE0 (i := 11) (by omega) (by omega)]
  rcases nodec (n := 12) p with ⟨w, hw8, rfl⟩ | hno
  · have hq : w = 0 ∨ w = 1 ∨ w = 2 ∨ w = 3 ∨ w = 4 ∨ w = 5 ∨ w = 6 ∨ w = 7 ∨ w = 8 ∨ w = 9 ∨ w = 10 ∨ w = 11 := by omega
    rcases hq with rfl | rfl | rfl | rfl | rfl | rfl | rfl | rfl | rfl | rfl | rfl | rfl
    all_goals
      simp (disch := omega) only [n_lit, n_eq, if_true, if_false, if_neg, if_pos, Option.bind_some]
      exact ⟨_, rfl, rfl⟩
  · have hn : ∀ k, k < 12 → ¬ p = nI k := hno
    simp only [n_lit]
    rw [if_neg (hn 0 (by omega)), if_neg (hn 1 (by omega)), if_neg (hn 2 (by omega)), if_neg (hn 3 (by omega)), if_neg (hn 4 (by omega)), if_neg (hn 5 (by omega)), if_neg (hn 6 (by omega)), if_neg (hn 7 (by omega)), if_neg (hn 8 (by omega)), if_neg (hn 9 (by omega)), if_neg (hn 10 (by omega)), if_neg (hn 11 (by omega))]
    rw [if_neg (hn 4 (by omega)), if_neg (hn 5 (by omega)), if_neg (hn 0 (by omega)), if_neg (hn 1 (by omega)), if_neg (hn 2 (by omega)), if_neg (hn 3 (by omega)), if_neg (hn 6 (by omega)), if_neg (hn 7 (by omega)), if_neg (hn 8 (by omega)), if_neg (hn 9 (by omega)), if_neg (hn 10 (by omega)), if_neg (hn 11 (by omega))]
    exact ⟨_, rfl, rfl⟩
