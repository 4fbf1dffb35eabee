/-! the law's loop -/
def SpAll (Inv : Nat → Mem → Mem → Prop) : Prop := ∀ t, (∀ X Y, Inv t X Y → Inv t (res X 95) (res Y 16)) ∧ (∀ X Y, Inv (t + 1) X Y → Inv t X Y) ∧ Sp_feed (Inv (t + 1)) (Inv t) ∧ Sp_end (Inv (t + 1)) (Inv t) ∧ Sp_river (Inv (t + 1)) (Inv t) ∧ Sp_rule (Inv (t + 1)) (Inv t) ∧ Sp_fault (Inv (t + 1)) (Inv t) ∧ Sp_look (Inv (t + 1)) (Inv t) ∧ Sp_need (Inv (t + 1)) (Inv t) ∧ Sp_cross (Inv (t + 1)) (Inv t) ∧ Sp_swim (Inv (t + 1)) (Inv t) ∧ Sp_rest (Inv (t + 1)) (Inv t) ∧ Sp_may (Inv (t + 1)) (Inv t) ∧ Sp_owed (Inv (t + 1)) (Inv t) ∧ Sp_clear (Inv (t + 1)) (Inv t) ∧ Sp_plan (Inv (t + 1)) (Inv t) ∧ Sp_row (Inv (t + 1)) (Inv t) ∧ Sp_left (Inv (t + 1)) (Inv t) ∧ Sp_lost (Inv (t + 1)) (Inv t) ∧ Sp_fair (Inv (t + 1)) (Inv t) ∧ Sp_image (Inv (t + 1)) (Inv t) ∧ Sp_back (Inv (t + 1)) (Inv t) ∧ Sp_count (Inv (t + 1)) (Inv t)
theorem lw_cmp {Ln j : Nat} (h1 : Ln ≤ 3072) (h2 : j ≤ 3078) : Int32.ofNat Ln - 6 < Int32.ofNat j ↔ Ln < j + 6 := by
  have hj : (Int32.ofNat j).toInt = (j : Int) := nI_toInt (n := j) (by omega)
  rw [Int32.lt_iff_toInt_lt, hj]
  by_cases h : 6 ≤ Ln
  · have e : Int32.ofNat Ln - 6 = Int32.ofNat (Ln - 6) := by
      have h3 := ofN_add (Ln - 6) 6
      rw [show Ln - 6 + 6 = Ln by omega] at h3
      rw [← h3, show (6 : Int32) = Int32.ofNat 6 from rfl, Int32.add_sub_cancel]
    rw [e, show (Int32.ofNat (Ln - 6)).toInt = ((Ln - 6 : Nat) : Int) from nI_toInt (n := Ln - 6) (by omega)]
    omega
  · have h3 : ∀ n : Nat, n < 6 → (Int32.ofNat n - 6).toInt = (n : Int) - 6 := by decide
    rw [h3 Ln (by omega)]
    omega
set_option maxHeartbeats 4000000 in
set_option maxRecDepth 20000 in
theorem w_loop {z : ZT} {l : Launch} {g : GG} {b a Ln : Nat} {Q : State → Prop} {xs : Nat → Int32} {Inv : Nat → Mem → Mem → Prop} (C : CxK z l g b 0 room_1 cL_law 7 RL (some .boolean)) (hl : l.stackTraces = false) (hX : va_X a Ln xs (zs z) (zs z).heap) (ha : a < (zs z).heap.size) (hLn : Ln ≤ 3072) (hS : SpAll Inv)
    (hQ : ∀ k1 n1 L1 M1, k1 ≤ 6000 → n1 ≤ 200000 → YG z g b 7 Q k1 n1 1151 L1 [.int 1] M1) : ∀ (t j k n : Nat) (M : Mem) (o5 o6 : Option Value), Ln < j + 6 * t + 6 → j ≤ 3078 → k + t ≤ 5000 → n + 6 * t ≤ 100000 → Inv t (cut M 0 95) (cut M 95 16) →
      YG z g b 7 Q k n 23 [some (.ref a), some (.ref (b + 0)), some (.ref (b + 95)), some (.ref (b + 111)), some (.int (Int32.ofNat j)), o5, o6] [] M := by
  intro t
  induction t with
  | zero =>
    intro j k n M o5 o6 h1 h2 h3 h4 hI
    refine y_iload C dL_law_23 rfl ?_
    refine y_aloadn C dL_law_25 rfl ?_
    refine y_slen C hX ha dL_law_26 ?_
    refine y_bipush C dL_law_27 (v := 6) (by decide) ?_
    refine y_isub C dL_law_29 ?_
    refine y_icmpgtT C dL_law_30 (tgt := 1150) (by decide) ((lw_cmp hLn h2).mpr (by omega)) ?_
    refine y_iconst C dL_law_1150 (v := 1) (by decide) ?_
    exact hQ _ _ _ _ (by omega) (by omega)
  | succ t ih =>
    intro j k n M o5 o6 h1 h2 h3 h4 hI
    obtain ⟨hr, hm, s0, s1, s2, s3, s4, s5, s6, s7, s8, s9, s10, s11, s12, s13, s14, s15, s16, s17, s18, s19, s20⟩ := hS t
    refine y_iload C dL_law_23 rfl ?_
    refine y_aloadn C dL_law_25 rfl ?_
    refine y_slen C hX ha dL_law_26 ?_
    refine y_bipush C dL_law_27 (v := 6) (by decide) ?_
    refine y_isub C dL_law_29 ?_
    by_cases hh : Ln < j + 6
    · refine y_icmpgtT C dL_law_30 (tgt := 1150) (by decide) ((lw_cmp hLn h2).mpr hh) ?_
      refine y_iconst C dL_law_1150 (v := 1) (by decide) ?_
      exact hQ _ _ _ _ (by omega) (by omega)
    refine y_icmpgtF C dL_law_30 (tgt := 1150) (by decide) (fun h => hh ((lw_cmp hLn h2).mp h)) ?_
    refine y_aloadn C dL_law_33 rfl ?_
    refine y_iload C dL_law_34 rfl ?_
    refine y_sld C hX ha (j := j) (by omega) hLn rfl dL_law_36 ?_
    refine y_bipush C dL_law_37 (v := 31) (by decide) ?_
    refine y_iand C dL_law_39 ?_
    have kk : ∀ k1 n1 M1 p5 p6, k1 ≤ k + 1 → n1 ≤ n + 6 → Inv t (cut M1 0 95) (cut M1 95 16) → YG z g b 7 Q k1 n1 1144 [some (.ref a), some (.ref (b + 0)), some (.ref (b + 95)), some (.ref (b + 111)), some (.int (Int32.ofNat j)), p5, p6] [] M1 := by
      intro k1 n1 M1 p5 p6 hk1 hn1 hI1
      refine y_iinc C dL_law_1144 rfl (v := Int32.ofNat (j + 6)) (ofN_add j 6) rfl ?_
      refine y_goto C dL_law_1147 (tgt := 23) (by decide) ?_
      exact ih (j + 6) k1 n1 M1 p5 p6 (by omega) (by omega) (by omega) (by omega) hI1
    have hj6 : j + 6 ≤ Ln := by omega
    have hk5 : k ≤ 5000 := by omega
    have hn5 : n ≤ 100000 := by omega
    by_cases c0 : xs j &&& 31 = 0
    · exact y_tsIn C dL_law_40 c0 (by decide) (by decide) rfl (by decide) (w_arm_feed C hl hX ha hLn hr s0 hj6 hk5 hn5 hI kk)
    by_cases c1 : xs j &&& 31 = 1
    · exact y_tsIn C dL_law_40 c1 (by decide) (by decide) rfl (by decide) (w_arm_end C hl hX ha hLn hr s1 hj6 hk5 hn5 hI kk)
    by_cases c2 : xs j &&& 31 = 2
    · exact y_tsIn C dL_law_40 c2 (by decide) (by decide) rfl (by decide) (w_arm_river C hl hX ha hLn hr s2 hj6 hk5 hn5 hI kk)
    by_cases c3 : xs j &&& 31 = 3
    · exact y_tsIn C dL_law_40 c3 (by decide) (by decide) rfl (by decide) (w_arm_rule C hl hX ha hLn hr s3 hj6 hk5 hn5 hI kk)
    by_cases c4 : xs j &&& 31 = 4
    · exact y_tsIn C dL_law_40 c4 (by decide) (by decide) rfl (by decide) (w_arm_fault C hl hX ha hLn hr s4 hj6 hk5 hn5 hI kk)
    by_cases c5 : xs j &&& 31 = 5
    · exact y_tsIn C dL_law_40 c5 (by decide) (by decide) rfl (by decide) (w_arm_look C hl hX ha hLn hr s5 hj6 hk5 hn5 hI kk)
    by_cases c6 : xs j &&& 31 = 6
    · exact y_tsIn C dL_law_40 c6 (by decide) (by decide) rfl (by decide) (w_arm_need C hl hX ha hLn hr s6 hj6 hk5 hn5 hI kk)
    by_cases c7 : xs j &&& 31 = 7
    · exact y_tsIn C dL_law_40 c7 (by decide) (by decide) rfl (by decide) (w_arm_cross C hl hX ha hLn hr s7 hj6 hk5 hn5 hI kk)
    by_cases c8 : xs j &&& 31 = 8
    · exact y_tsIn C dL_law_40 c8 (by decide) (by decide) rfl (by decide) (w_arm_swim C hl hX ha hLn hr s8 hj6 hk5 hn5 hI kk)
    by_cases c9 : xs j &&& 31 = 9
    · exact y_tsIn C dL_law_40 c9 (by decide) (by decide) rfl (by decide) (w_arm_rest C hl hX ha hLn hr s9 hj6 hk5 hn5 hI kk)
    by_cases c10 : xs j &&& 31 = 10
    · exact y_tsIn C dL_law_40 c10 (by decide) (by decide) rfl (by decide) (w_arm_may C hl hX ha hLn hr s10 hj6 hk5 hn5 hI kk)
    by_cases c11 : xs j &&& 31 = 11
    · exact y_tsIn C dL_law_40 c11 (by decide) (by decide) rfl (by decide) (w_arm_owed C hl hX ha hLn hr s11 hj6 hk5 hn5 hI kk)
    by_cases c12 : xs j &&& 31 = 12
    · exact y_tsIn C dL_law_40 c12 (by decide) (by decide) rfl (by decide) (w_arm_clear C hl hX ha hLn hr s12 hj6 hk5 hn5 hI kk)
    by_cases c13 : xs j &&& 31 = 13
    · exact y_tsIn C dL_law_40 c13 (by decide) (by decide) rfl (by decide) (w_arm_plan C hl hX ha hLn hr s13 hj6 hk5 hn5 hI kk)
    by_cases c14 : xs j &&& 31 = 14
    · exact y_tsIn C dL_law_40 c14 (by decide) (by decide) rfl (by decide) (w_arm_row C hl hX ha hLn hr s14 hj6 hk5 hn5 hI kk)
    by_cases c15 : xs j &&& 31 = 15
    · exact y_tsIn C dL_law_40 c15 (by decide) (by decide) rfl (by decide) (w_arm_left C hl hX ha hLn hr s15 hj6 hk5 hn5 hI kk)
    by_cases c16 : xs j &&& 31 = 16
    · exact y_tsIn C dL_law_40 c16 (by decide) (by decide) rfl (by decide) (w_arm_lost C hl hX ha hLn hr s16 hj6 hk5 hn5 hI kk)
    by_cases c17 : xs j &&& 31 = 17
    · exact y_tsIn C dL_law_40 c17 (by decide) (by decide) rfl (by decide) (w_arm_fair C hl hX ha hLn hr s17 hj6 hk5 hn5 hI kk)
    by_cases c18 : xs j &&& 31 = 18
    · exact y_tsIn C dL_law_40 c18 (by decide) (by decide) rfl (by decide) (w_arm_image C hl hX ha hLn hr s18 hj6 hk5 hn5 hI kk)
    by_cases c19 : xs j &&& 31 = 19
    · exact y_tsIn C dL_law_40 c19 (by decide) (by decide) rfl (by decide) (w_arm_back C hl hX ha hLn hr s19 hj6 hk5 hn5 hI kk)
    by_cases c20 : xs j &&& 31 = 20
    · exact y_tsIn C dL_law_40 c20 (by decide) (by decide) rfl (by decide) (w_arm_count C hl hX ha hLn hr s20 hj6 hk5 hn5 hI kk)
    refine y_tsOut C dL_law_40 (ts_out (fun q q1 q2 q3 => ?_)) (tgt := 1144) (by decide) (kk k n M o5 o6 (by omega) (by omega) (hm _ _ hI))
    have h9 : q = 0 ∨ q = 1 ∨ q = 2 ∨ q = 3 ∨ q = 4 ∨ q = 5 ∨ q = 6 ∨ q = 7 ∨ q = 8 ∨ q = 9 ∨ q = 10 ∨ q = 11 ∨ q = 12 ∨ q = 13 ∨ q = 14 ∨ q = 15 ∨ q = 16 ∨ q = 17 ∨ q = 18 ∨ q = 19 ∨ q = 20 := by omega
    rcases h9 with rfl | rfl | rfl | rfl | rfl | rfl | rfl | rfl | rfl | rfl | rfl | rfl | rfl | rfl | rfl | rfl | rfl | rfl | rfl | rfl | rfl
    · exact c0 q3
    · exact c1 q3
    · exact c2 q3
    · exact c3 q3
    · exact c4 q3
    · exact c5 q3
    · exact c6 q3
    · exact c7 q3
    · exact c8 q3
    · exact c9 q3
    · exact c10 q3
    · exact c11 q3
    · exact c12 q3
    · exact c13 q3
    · exact c14 q3
    · exact c15 q3
    · exact c16 q3
    · exact c17 q3
    · exact c18 q3
    · exact c19 q3
    · exact c20 q3
