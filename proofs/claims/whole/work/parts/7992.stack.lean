/-! the rule: steps on a stack -/
def pOf (F : Nat → Int32) (s : Int32) : Int32 := if s = -4 then F 3 else if s = -3 then F 2 else if s = -2 then F 1 else if s = -1 then F 0 else s
def jn (s x y : Int32) : Int32 := if s = -9 then x &&& y else if s = -8 then (if y < x then 1 else 0) else if s = -7 then (if x < y then 1 else 0) else if s = -6 then x + y else x ||| y
def HF (M : Mem) (F : Nat → Int32) : Prop := M 58 6 = F 0 ∧ M 58 7 = F 1 ∧ M 58 8 = F 2 ∧ M 58 9 = F 3
theorem HF_cong {M M' : Mem} {F : Nat → Int32} (h : HF M F) (h2 : ∀ i, M' 58 i = M 58 i) : HF M' F := ⟨by rw [h2, h.1], by rw [h2, h.2.1], by rw [h2, h.2.2.1], by rw [h2, h.2.2.2]⟩
/-- the steps from z on, n of them, put one value on the stack -/
def Ev (s : Nat → Int32) (z n h : Nat) (v : (Nat → Int32) → Int32) : Prop := ∀ (F : Nat → Int32) (M : Mem) (k fu p2 : Nat) (p1 : Int32) (K : Int32 → Mem → Option (Int32 × Mem)), (∀ i, z ≤ i → i < z + n → M 61 i = s i) → HF M F → k + h ≤ 40 → z + n ≤ p2 → p2 ≤ 400 → ∃ M', ru_holds_L5 58 p1 (nI p2) K (fu + n) (nI k) (nI z) M = ru_holds_L5 58 p1 (nI p2) K fu (nI (k + 1)) (nI (z + n)) M' ∧ M' 62 k = v F ∧ ∀ r i, ¬ (r = 62 ∧ k ≤ i) → M' r i = M r i
theorem Ev_cong {s s' : Nat → Int32} {z n h : Nat} {v : (Nat → Int32) → Int32} (H : Ev s z n h v) (h2 : ∀ i, z ≤ i → i < z + n → s' i = s i) : Ev s' z n h v := fun F M k fu p2 p1 K a => H F M k fu p2 p1 K fun i x y => by rw [a i x y, h2 i x y]
theorem Ev_mono {s : Nat → Int32} {z n h h' : Nat} {v : (Nat → Int32) → Int32} (H : Ev s z n h v) (h2 : h ≤ h') : Ev s z n h' v := fun F M k fu p2 p1 K a d f => H F M k fu p2 p1 K a d (by omega)
theorem doPart {M : Mem} {F : Nat → Int32} {s : Int32} {k : Nat} (hF : HF M F) (hs : -5 < s) (hk : k < 40) : ru_doStep 58 s (nI k) M = some (nI (k + 1), wr M 62 k (pOf F s)) := by
  have hp : ru_partOf 58 s M = some (pOf F s) := by
    unfold ru_partOf pOf
    rw [hF.1, hF.2.1, hF.2.2.1, hF.2.2.2]
    by_cases c1 : s = -4
    · rw [if_pos c1, if_pos c1]
    rw [if_neg c1, if_neg c1]
    by_cases c2 : s = -3
    · rw [if_pos c2, if_pos c2]
    rw [if_neg c2, if_neg c2]
    by_cases c3 : s = -2
    · rw [if_pos c3, if_pos c3]
    rw [if_neg c3, if_neg c3]
    by_cases c4 : s = -1
    · rw [if_pos c4, if_pos c4]
    rw [if_neg c4, if_neg c4]
  unfold ru_doStep
  rw [if_pos hs, if_pos (show nI k < 40 by rw [show (40 : Int32) = nI 40 from rfl, n_lt (by omega) (by omega)]; exact hk), hp, bind_s, chk_in hk (by omega), n_cl (by omega), lt1_ap, show nI k + 1 = nI (k + 1) from n_add _ _]
theorem Ev_part {s : Nat → Int32} {z : Nat} (hs : -5 < s z) : Ev s z 1 1 (fun F => pOf F (s z)) := by
  intro F M k fu p2 p1 K a hF hk hz hp
  refine ⟨wr M 62 k (pOf F (s z)), ?_, wr_eq, fun r i q => wr_ne (by omega)⟩
  rw [ru_holds_L5, if_pos (by rw [n_lt (by omega) (by omega)]; omega), chk_in (by omega) (by omega), n_cl (by omega), show 58 + 3 = 61 from rfl, a z (by omega) (by omega), doPart hF hs (by omega), bnd_s, show nI z + 1 = nI (z + 1) from n_add _ _]
theorem doJoin {M : Mem} {s : Int32} {k : Nat} (hs : s = -10 ∨ s = -9 ∨ s = -8 ∨ s = -7 ∨ s = -6) (hk : k + 2 ≤ 40) : ru_doStep 58 s (nI (k + 2)) M = some (nI (k + 1), wr M 62 k (jn s (M 62 k) (M 62 (k + 1)))) := by
  have h5 : ¬ -5 < s := by rcases hs with rfl | rfl | rfl | rfl | rfl <;> decide
  have h6 : ¬ s = -5 := by rcases hs with rfl | rfl | rfl | rfl | rfl <;> decide
  have hj : ∀ x y, ru_join s x y M = some (jn s x y) := fun x y => by
    unfold ru_join jn
    rcases hs with rfl | rfl | rfl | rfl | rfl
    · rfl
    · rfl
    · rw [if_neg (show ¬ (-8 : Int32) = -9 by decide), if_pos (show (-8 : Int32) = -8 from rfl), if_neg (show ¬ (-8 : Int32) = -9 by decide), if_pos (show (-8 : Int32) = -8 from rfl)]
      by_cases q : y < x
      · rw [if_pos q, if_pos q]
      · rw [if_neg q, if_neg q]
    · rw [if_neg (show ¬ (-7 : Int32) = -9 by decide), if_neg (show ¬ (-7 : Int32) = -8 by decide), if_pos (show (-7 : Int32) = -7 from rfl), if_neg (show ¬ (-7 : Int32) = -9 by decide), if_neg (show ¬ (-7 : Int32) = -8 by decide), if_pos (show (-7 : Int32) = -7 from rfl)]
      by_cases q : x < y
      · rw [if_pos q, if_pos q]
      · rw [if_neg q, if_neg q]
    · rfl
  unfold ru_doStep
  rw [if_neg h5, if_neg h6]
  unfold ru_doStep_J58
  rw [if_neg h6, if_neg (show ¬ nI (k + 2) < 2 by rw [show (2 : Int32) = nI 2 from rfl, n_lt (by omega) (by omega)]; omega), show (2 : Int32) = nI 2 from rfl, show (1 : Int32) = nI 1 from rfl, n_sub (by omega), n_sub (by omega), show k + 2 - 2 = k by omega, show k + 2 - 1 = k + 1 by omega, chk_in (by omega) (by omega), chk_in (by omega) (by omega), n_cl (by omega), n_cl (by omega), hj, bind_s, chk_in (by omega) (by omega), lt1_ap]
theorem doNot {M : Mem} {k : Nat} (hk : k + 1 ≤ 40) : ru_doStep 58 (-5) (nI (k + 1)) M = some (nI (k + 1), wr M 62 k (1 - M 62 k)) := by
  unfold ru_doStep
  rw [if_neg (by decide), if_pos rfl, if_neg (show ¬ nI (k + 1) < 1 by rw [show (1 : Int32) = nI 1 from rfl, n_lt (by omega) (by omega)]; omega), show (1 : Int32) = nI 1 from rfl, n_sub (by omega), show k + 1 - 1 = k by omega, chk_in (by omega) (by omega), chk_in (by omega) (by omega), n_cl (by omega), lt1_ap]
  unfold ru_doStep_J58
  rw [if_pos rfl]
theorem Ev_bin {s : Nat → Int32} {z n1 n2 h1 h2 h : Nat} {v1 v2 : (Nat → Int32) → Int32} {op : Int32} (H1 : Ev s z n1 h1 v1) (H2 : Ev s (z + n1) n2 h2 v2) (hs : s (z + n1 + n2) = op) (ho : op = -10 ∨ op = -9 ∨ op = -8 ∨ op = -7 ∨ op = -6) (g1 : h1 ≤ h) (g2 : 1 + h2 ≤ h) (g3 : 2 ≤ h) : Ev s z (n1 + n2 + 1) h (fun F => jn op (v1 F) (v2 F)) := by
  intro F M k fu p2 p1 K a hF hk hz hp
  obtain ⟨M1, e1, e2, e3⟩ := H1 F M k (fu + 1 + n2) p2 p1 K (fun i x y => a i x (by omega)) hF (by omega) (by omega) hp
  obtain ⟨M2, f1, f2, f3⟩ := H2 F M1 (k + 1) (fu + 1) p2 p1 K (fun i x y => by rw [e3 _ _ (by omega)]; exact a i (by omega) (by omega)) (HF_cong hF fun i => e3 _ _ (by omega)) (by omega) (by omega) hp
  refine ⟨wr M2 62 k (jn op (M2 62 k) (M2 62 (k + 1))), ?_, ?_, fun r i q => by rw [wr_ne (by omega), f3 _ _ (by omega), e3 _ _ (by omega)]⟩
  · rw [show fu + (n1 + n2 + 1) = fu + 1 + n2 + n1 by omega, e1, f1, ru_holds_L5, if_pos (by rw [n_lt (by omega) (by omega)]; omega), chk_in (by omega) (by omega), n_cl (by omega), show 58 + 3 = 61 from rfl, f3 _ _ (by omega), e3 _ _ (by omega), a (z + n1 + n2) (by omega) (by omega), hs, show k + 1 + 1 = k + 2 from rfl, doJoin ho (by omega), bnd_s, show nI (z + n1 + n2) + 1 = nI (z + n1 + n2 + 1) from n_add _ _, show z + n1 + n2 + 1 = z + (n1 + n2 + 1) by omega]
  · show wr M2 62 k _ 62 k = _
    rw [wr_eq, f2, f3 _ _ (by omega), e2]
theorem Ev_not {s : Nat → Int32} {z n h : Nat} {v : (Nat → Int32) → Int32} (H : Ev s z n h v) (hs : s (z + n) = -5) (g : 1 ≤ h) : Ev s z (n + 1) h (fun F => 1 - v F) := by
  intro F M k fu p2 p1 K a hF hk hz hp
  obtain ⟨M1, e1, e2, e3⟩ := H F M k (fu + 1) p2 p1 K (fun i x y => a i x (by omega)) hF (by omega) (by omega) hp
  refine ⟨wr M1 62 k (1 - M1 62 k), ?_, ?_, fun r i q => by rw [wr_ne (by omega), e3 _ _ (by omega)]⟩
  · rw [show fu + (n + 1) = fu + 1 + n by omega, e1, ru_holds_L5, if_pos (by rw [n_lt (by omega) (by omega)]; omega), chk_in (by omega) (by omega), n_cl (by omega), show 58 + 3 = 61 from rfl, e3 _ _ (by omega), a (z + n) (by omega) (by omega), hs, doNot (by omega), bnd_s, show nI (z + n) + 1 = nI (z + n + 1) from n_add _ _, show z + n + 1 = z + (n + 1) by omega]
  · show wr M1 62 k _ 62 k = _
    rw [wr_eq, e2]
/-- a whole condition -/
theorem Ev_holds {s : Nat → Int32} {z n : Nat} {v : (Nat → Int32) → Int32} {F : Nat → Int32} {M : Mem} (H : Ev s z n 40 v) (hM : ∀ i, z ≤ i → i < z + n → M 61 i = s i) (hF : HF M F) (hz : z + n ≤ 400) : ∃ M', ru_holds 58 (nI z) (nI (z + n)) M = some (bI (decide (¬ v F = 0)), M') ∧ ∀ r i, ¬ r = 62 → M' r i = M r i := by
  unfold ru_holds
  obtain ⟨M1, e1, e2, e3⟩ := H F M 0 (FU - n) (z + n) (nI z) (fun v3_2 M4 => (if v3_2 = 0 then some ((1 : Int32), M4) else (if (M4 (58 + 4) 0) = 0 then some ((0 : Int32), M4) else some ((1 : Int32), M4)))) hM hF (by omega) (Nat.le_refl _) hz
  have e4 : FU - n + n = FU := by rw [FUe]; omega
  have e5 : FU - n = (FU - n - 1) + 1 := by rw [FUe]; omega
  rw [e4] at e1
  refine ⟨M1, ?_, fun r i q => e3 r i (by omega)⟩
  refine Eq.trans e1 ?_
  rw [e5, ru_holds_L5, if_neg (by rw [n_lt (by omega) (by omega)]; omega), if_neg (by decide)]
  show (if M1 62 0 = 0 then _ else _) = _
  rw [e2]
  by_cases q : v F = 0
  · rw [if_pos q, decide_eq_false (fun h => h q)]
    rfl
  · rw [if_neg q, decide_eq_true q]
    rfl
/-- no condition -/
theorem Ev_holds0 {z : Nat} {M : Mem} (hz : z ≤ 400) : ru_holds 58 (nI z) (nI z) M = some (1, M) := by
  unfold ru_holds
  rw [show FU = 999999 + 1 from rfl, ru_holds_L5, if_neg (by rw [n_lt (by omega) (by omega)]; omega), if_pos (by decide)]
