/-! a crossing, a swim: what both ask -/
def mI (m : Nat) : Int32 := if m = 0 then -1 else nI m
def here (c : Nat → Nat) (ov bk : Nat) : Nat := if bk = 0 then sd (al c) ov else ov
def wokB (c : Nat → Nat) (s k : Nat) : Bool := !(s.testBit (c (124 + 2 * k)) && !s.testBit (c (124 + 2 * k + 1)))
def wok (c : Nat → Nat) (s : Nat) : Bool := allF (wokB c s) 0 (c 13)
def nee (c : Nat → Nat) (w : Nat) : Nat := sr c + (w + 19) / 20
def mins (c : Nat → Nat) (nd f : Nat) : Nat := max 1 ((c 7 * nd + f - 1) / f)
def crs2 (c : Nat → Nat) (h ld w f : Nat) : Nat := if w ≤ c 5 ∧ nee c w ≤ f ∧ f ≠ 0 ∧ wok c ld = true ∧ may c (sd h ld) = true ∧ may c (sd (al c) h) = true ∧ may c (sd (al c) h ||| ld) = true then mins c (nee c w) f else 0
def crs (c : Nat → Nat) (ov bk ld pl : Nat) : Nat := if sd ld (here c ov bk) = 0 ∧ sd pl (sd (al c) (here c ov bk)) = 0 then crs2 c (here c ov bk) ld (c 6 + sB (wt c) ld (c 1)) (sB (fo c) pl (c 1)) else 0
def frm (c : Nat → Nat) (ov b : Nat) : Nat := if ov.testBit b = true then ov else sd (al c) ov
def swm (c : Nat → Nat) (ov b : Nat) : Nat := if sm c b = 1 ∧ sr c ≤ fo c b ∧ co c b (c 13) = 0 ∧ may c (sd (frm c ov b) (2 ^ b)) = true ∧ may c (sd (al c) (frm c ov b)) = true ∧ may c (sd (al c) (frm c ov b) ||| 2 ^ b) = true then c 7 + sr c else 0
/-- the class's tables of all sets -/
def MT (X : Mem) (c : Nat → Nat) : Prop := X 75 2 = nI (al c) ∧ X 75 3 = nI (sr c) ∧ ∀ s, s < 2 ^ c 1 → X 76 s = nI (sB (wt c) s (c 1)) ∧ X 77 s = nI (sB (fo c) s (c 1)) ∧ X 78 s = nI (oB (fun b => co c b (c 13)) s (c 1)) ∧ X 79 s = bI (may c s)
def MV (X : Mem) (c : Nat → Nat) : Prop := XRv 6 X c ∧ MT X c ∧ WR c
theorem imax_n {a b : Nat} (ha : a < 2147483648) (hb : b < 2147483648) : imax (nI a) (nI b) = nI (max a b) := by
  unfold imax
  simp (disch := omega) only [n_lt]
  by_cases h : a < b
  · rw [if_pos h, show max a b = b by omega]
  · rw [if_neg h, show max a b = a by omega]
theorem here_lt {c : Nat → Nat} {ov bk : Nat} (hw : WR c) (h : ov < 2 ^ c 1) : here c ov bk < 2 ^ c 1 := by
  unfold here
  split
  · exact sd_lt _ (WR_al hw).2.1
  · exact h
theorem there_lt {c : Nat → Nat} (h : Nat) (hw : WR c) : sd (al c) h < 2 ^ c 1 := sd_lt _ (WR_al hw).2.1
theorem sub_lt {a b n : Nat} (h : sd a b = 0) (hb : b < 2 ^ n) : a < 2 ^ n := lt_of_tb fun i hi => by
  cases h1 : a.testBit i
  · rfl
  · have := sd_0.mp h i h1
    rw [tb_big hb hi] at this
    exact Bool.noConfusion this
theorem and_al {c : Nat → Nat} {a : Nat} (h : a < 2 ^ c 1) : a &&& al c = a := Nat.eq_of_testBit_eq fun i => by
  rw [Nat.testBit_and, al_b]
  by_cases q : i < c 1
  · rw [decide_eq_true q, Bool.and_true]
  · rw [tb_big h (by omega), Bool.false_and]
theorem wsum_le {c : Nat → Nat} (hw : WR c) (s : Nat) : sB (wt c) s (c 1) ≤ 990 := by
  have h1 := sB_le (f := wt c) (s := s) (B := 99) (n := c 1) (fun k hk => (hw.2.2.2.2.2.2.2.2.1 k hk).2.2.2.1)
  have := WR_n hw
  omega
theorem fsum_le {c : Nat → Nat} (hw : WR c) (s : Nat) : sB (fo c) s (c 1) ≤ 90 := by
  have h1 := sB_le (f := fo c) (s := s) (B := 9) (n := c 1) (fun k hk => fo_le hw hk)
  have := WR_n hw
  omega
theorem wide_mul {c : Nat → Nat} (hw : WR c) {nd : Nat} (h : nd ≤ 64) : c 7 * nd ≤ 3840 := by
  have h1 := Nat.mul_le_mul hw.2.2.2.2.1.2 h
  omega
theorem wok_iff {c : Nat → Nat} {s : Nat} (hw : WR c) : wok c s = true ↔ sd (oB (fun b => co c b (c 13)) s (c 1)) s = 0 := by
  unfold wok
  rw [allF_iff, sd_0]
  constructor
  · intro h i hi
    obtain ⟨b, hb, h1, h2⟩ := oB_tb.mp hi
    obtain ⟨k, hk, h3, h4⟩ := co_tb.mp h2
    have h5 := h k (by omega) (by omega)
    unfold wokB at h5
    rw [h3, h4, h1, Bool.true_and, Bool.not_not] at h5
    exact h5
  · intro h k _ hk
    unfold wokB
    cases h1 : s.testBit (c (124 + 2 * k))
    · rfl
    · rw [h (c (124 + 2 * k + 1)) (oB_tb.mpr ⟨c (124 + 2 * k), (hw.2.2.2.2.2.2.2.2.2.2 k (by omega)).1, h1, co_tb.mpr ⟨k, by omega, rfl, rfl⟩⟩)]
      rfl
/-! the class -/
theorem k_here {X : Mem} {c : Nat → Nat} (h : MV X c) {s : Nat} (hs : s / 2 < 2 ^ c 1) : mv_here (nI s) X = some (nI (here c (s / 2) (s % 2))) := by
  obtain ⟨hR, hM, hw⟩ := h
  have h10 := pw_10 (WR_n hw)
  unfold mv_here here
  rw [hM.1]
  simp (disch := omega) only [n_lit, n_and, m31, n_shr, n_sd2, n_eq, Nat.and_one_is_mod, Nat.pow_one]
  by_cases q : s % 2 = 0
  · rw [if_pos q, if_pos q]
  · rw [if_neg q, if_neg q, and_al hs]
theorem k_need {X : Mem} {c : Nat → Nat} (h : MV X c) {w : Nat} (hb : w ≤ 100000) : mv_needFor (nI w) X = some (nI (nee c (c 6 + w))) := by
  obtain ⟨hR, hM, hw⟩ := h
  have h1 := sr_le hw
  have h2 : c 6 ≤ 99 := hw.2.2.2.1
  unfold mv_needFor nee
  rw [hM.2.1, hR.2.2.2.2.1.2.1]
  simp (disch := omega) only [n_lit, n_add, n_div]
  rw [Nat.add_comm w (c 6)]
theorem k_bears {X : Mem} {c : Nat → Nat} (h : MV X c) {w : Nat} (hb : w ≤ 100000) : mv_ropeBears (nI w) X = some (bI (decide (c 6 + w ≤ c 5))) := by
  obtain ⟨hR, hM, hw⟩ := h
  have h2 : c 6 ≤ 99 := hw.2.2.2.1
  have h3 : c 5 ≤ 999 := hw.2.2.1.2
  unfold mv_ropeBears
  rw [hR.2.2.2.2.1.1, hR.2.2.2.2.1.2.1]
  simp (disch := omega) only [n_lit, n_add, n_lt]
  by_cases q : c 5 < w + c 6
  · rw [if_pos q, decide_eq_false (by omega)]
    rfl
  · rw [if_neg q, decide_eq_true (by omega)]
    rfl
theorem k_mins {X : Mem} {c : Nat → Nat} (h : MV X c) {nd f : Nat} (h1 : nd ≤ 64) (h2 : 0 < f) (h3 : f ≤ 100000) : mv_minutesFor (nI nd) (nI f) X = some (nI (mins c nd f)) := by
  obtain ⟨hR, hM, hw⟩ := h
  have h4 := wide_mul hw h1
  have h5 : (c 7 * nd + f - 1) / f ≤ c 7 * nd + f - 1 := Nat.div_le_self _ _
  unfold mv_minutesFor mins
  rw [hR.2.2.2.2.1.2.2]
  simp (disch := omega) only [n_lit, n_lt, if_pos, chk_nz, n_mul, n_add, n_sub, n_div, lt1_ap]
  by_cases q : (c 7 * nd + f - 1) / f < 1
  · rw [if_pos q, Nat.max_eq_left (by omega)]
  · rw [if_neg q, Nat.max_eq_right (by omega)]
theorem k_peace {X : Mem} {c : Nat → Nat} (h : MV X c) {f t g : Nat} (hf : f < 2 ^ c 1) (ht : t < 2 ^ c 1) (hg : g < 2 ^ c 1) : mv_keepsPeace (nI f) (nI t) (nI g) X = some (bI (may c (sd f g) && (may c t && may c (t ||| g)))) := by
  obtain ⟨hR, hM, hw⟩ := h
  have h10 := pw_10 (WR_n hw)
  have h1 := sd_lt g hf
  have h2 := or_lt ht hg
  unfold mv_keepsPeace
  simp (disch := omega) only [n_lit, n_sd, n_or, chk_in, n_cl]
  rw [(hM.2.2 _ h1).2.2.2, (hM.2.2 _ ht).2.2.2, (hM.2.2 _ h2).2.2.2]
  simp only [bI_0]
  cases may c (sd f g) <;> cases may c t <;> cases may c (t ||| g) <;> rfl
theorem k_crossing {X : Mem} {c : Nat → Nat} (h : MV X c) {s L P : Nat} (hs : s / 2 < 2 ^ c 1) (hL : L < 4294967296) (hP : P < 4294967296) : mv_crossing (nI s) (nI L) (nI P) X = some (mI (crs c (s / 2) (s % 2) L P)) := by
  have hh := here_lt (bk := s % 2) h.2.2 hs
  obtain ⟨hR, hM, hw⟩ := id h
  have h10 := pw_10 (WR_n hw)
  have ht := there_lt (here c (s / 2) (s % 2)) hw
  have b1 : sd L (here c (s / 2) (s % 2)) < 4294967296 := sd_lt (n := 32) _ hL
  have b2 : sd P (sd (al c) (here c (s / 2) (s % 2))) < 4294967296 := sd_lt (n := 32) _ hP
  unfold mv_crossing crs
  rw [k_here h hs, hM.1]
  simp (disch := omega) only [n_lit, Option.bind_some, n_sd, n_eq]
  by_cases q1 : sd L (here c (s / 2) (s % 2)) = 0
  · by_cases q2 : sd P (sd (al c) (here c (s / 2) (s % 2))) = 0
    · have l1 := sub_lt q1 hh
      have l2 := sub_lt q2 ht
      have w1 := wsum_le hw L
      have w2 := fsum_le hw P
      have w3 := sr_le hw
      have w4 : c 6 ≤ 99 := hw.2.2.2.1
      have w5 : nee c (c 6 + sB (wt c) L (c 1)) ≤ 64 := by unfold nee; omega
      have w6 : oB (fun b => co c b (c 13)) L (c 1) < 2 ^ c 1 := oB_lt (fun k _ => co_lt hw k (c 13) (Nat.le_refl _))
      have w7 := sd_lt L w6
      rw [if_pos q1, if_pos q2, if_pos ⟨q1, q2⟩]
      simp (disch := omega) only [chk_in, n_cl]
      rw [(hM.2.2 _ l1).1, (hM.2.2 _ l1).2.2.1, (hM.2.2 _ l2).2.1, k_need h (by omega), k_bears h (by omega), k_peace h hh ht l1]
      simp (disch := omega) only [Option.bind_some, bI_0, n_lt, n_sd, n_eq]
      unfold crs2
      by_cases c1 : c 6 + sB (wt c) L (c 1) ≤ c 5
      · rw [decide_eq_true c1, if_neg (by decide)]
        by_cases c2 : sB (fo c) P (c 1) < nee c (c 6 + sB (wt c) L (c 1))
        · rw [if_pos c2, if_neg (by omega)]
          rfl
        · rw [if_neg c2]
          by_cases c3 : sd (oB (fun b => co c b (c 13)) L (c 1)) L = 0
          · have c3' := (wok_iff hw).mpr c3
            rw [if_pos c3]
            cases c4 : may c (sd (here c (s / 2) (s % 2)) L) && (may c (sd (al c) (here c (s / 2) (s % 2))) && may c (sd (al c) (here c (s / 2) (s % 2)) ||| L))
            · rw [if_pos rfl, if_neg ?_]
              · rfl
              · rintro ⟨-, -, -, -, e1, e2, e3⟩
                rw [e1, e2, e3] at c4
                exact Bool.noConfusion c4
            · rw [if_neg (by decide)]
              simp only [Bool.and_eq_true] at c4
              by_cases c5 : sB (fo c) P (c 1) = 0
              · rw [if_neg (fun e => e.2.2.1 c5)]
                rw [c5]
                rfl
              · rw [if_pos ⟨c1, by omega, c5, c3', c4.1, c4.2.1, c4.2.2⟩, k_mins h w5 (by omega) (by omega)]
                unfold mI mins
                rw [if_neg (by omega)]
                rfl
          · rw [if_neg c3, if_neg (fun e => c3 ((wok_iff hw).mp e.2.2.2.1))]
            rfl
      · rw [decide_eq_false c1, if_pos rfl, if_neg (fun e => c1 e.1)]
        rfl
    · rw [if_pos q1, if_neg q2, if_neg (fun e => q2 e.2)]
      rfl
  · rw [if_neg q1, if_neg (fun e => q1 e.1)]
    rfl
/-! the reference -/
theorem r_need {Y : Mem} {c : Nat → Nat} {T : Nat} (h : EY Y c) (hw : WR c) (hb : WB T c) (hT : T ≤ 520) {w : Nat} (h1 : w ≤ 200000) : md_needOf (nI w) Y = some (nI (nee c w)) := by
  have h2 := sr_le hw
  unfold md_needOf nee
  rw [r_stream h hb hT]
  simp (disch := omega) only [n_lit, Option.bind_some, n_add, n_div]
theorem r_mins {Y : Mem} {c : Nat → Nat} (h : EY Y c) (hw : WR c) {nd f : Nat} (h1 : nd ≤ 64) (h2 : 0 < f) (h3 : f ≤ 100000) : md_minutesBy (nI nd) (nI f) Y = some (nI (mins c nd f)) := by
  have h4 := wide_mul hw h1
  have h5 : (c 7 * nd + f - 1) / f ≤ c 7 * nd + f - 1 := Nat.div_le_self _ _
  unfold md_minutesBy mins
  rw [EY_n h (i := 7) (by omega) (by omega)]
  simp (disch := omega) only [n_lit, chk_nz, n_mul, n_add, n_sub, n_div, lt1_ap, n_lt]
  by_cases q : (c 7 * nd + f - 1) / f < 1
  · rw [if_pos q, show max 1 ((c 7 * nd + f - 1) / f) = 1 by omega]
  · rw [if_neg q, show max 1 ((c 7 * nd + f - 1) / f) = (c 7 * nd + f - 1) / f by omega]
theorem r_with_L {Y : Mem} {c : Nat → Nat} (h : EY Y c) (hw : WR c) {s : Nat} {p1 p2 p4 y6 y7 y9 y10 : Int32} {K : Option (Int32 × Mem)} : ∀ m k fu, k + m = c 13 → m < fu → md_mayCross_L103 p1 p2 (nI s) p4 y6 y7 y9 y10 Y K fu (nI k) = if allF (wokB c s) k m = true then K else some (nI 0, Y)
  | 0, k, 0, _, hf => absurd hf (by omega)
  | 0, k, fu + 1, hk, _ => by
    have h1 : c 13 ≤ 12 := hw.2.2.2.2.2.2.1
    rw [md_mayCross_L103, EY_n h (i := 13) (by omega) (by omega)]
    simp (disch := omega) only [n_lt, if_neg]
    rfl
  | m + 1, k, 0, _, hf => absurd hf (by omega)
  | m + 1, k, fu + 1, hk, hf => by
    have h1 : c 13 ≤ 12 := hw.2.2.2.2.2.2.1
    have h10 := WR_n hw
    have ih := r_with_L h hw (s := s) (p1 := p1) (p2 := p2) (p4 := p4) (y6 := y6) (y7 := y7) (y9 := y9) (y10 := y10) (K := K) m (k + 1) fu (by omega) (by omega)
    have h3 := hw.2.2.2.2.2.2.2.2.2.2 k (by omega)
    rw [md_mayCross_L103, EY_n h (i := 13) (by omega) (by omega)]
    simp (disch := omega) only [n_lit, n_mul, n_add, n_lt, if_pos, chk_in, n_cl]
    rw [EY_n h (i := 124 + 2 * k) (by omega) (by omega), EY_n h (i := 124 + 2 * k + 1) (by omega) (by omega), r_isOf (by omega), r_isOf (by omega)]
    simp only [Option.bind_some, bI_0]
    rw [ih]
    show _ = if (wokB c s k && allF (wokB c s) (k + 1) m) = true then K else some (nI 0, Y)
    unfold wokB
    cases q1 : s.testBit (c (124 + 2 * k))
    · rfl
    · cases q2 : s.testBit (c (124 + 2 * k + 1))
      · rfl
      · rfl
def rY (Y : Mem) (m : Nat) : Mem := if m = 0 then Y else wr Y 0 17 (nI m)
theorem r_cross_J {Y : Mem} {c : Nat → Nat} {T : Nat} (h : EY Y c) (hw : WR c) (hb : WB T c) (hT : T ≤ 520) {hh L P : Nat} {p1 p2 : Int32} (hs : hh < 2 ^ c 1) (hL : L < 4294967296) (hP : P < 4294967296) : md_mayCross_J20 p1 p2 (nI L) (nI P) (nI (al c)) (nI hh) Y = some (bI (decide (¬ (if sd L hh = 0 ∧ sd P (sd (al c) hh) = 0 then crs2 c hh L (c 6 + sB (wt c) L (c 1)) (sB (fo c) P (c 1)) else 0) = 0)), rY Y (if sd L hh = 0 ∧ sd P (sd (al c) hh) = 0 then crs2 c hh L (c 6 + sB (wt c) L (c 1)) (sB (fo c) P (c 1)) else 0)) := by
  have h10 := pw_10 (WR_n hw)
  have ht := there_lt hh hw
  have b1 : sd L hh < 4294967296 := sd_lt (n := 32) _ hL
  have b2 : sd P (sd (al c) hh) < 4294967296 := sd_lt (n := 32) _ hP
  unfold md_mayCross_J20
  simp (disch := omega) only [n_lit, n_sd, n_eq]
  by_cases q1 : sd L hh = 0
  · by_cases q2 : sd P (sd (al c) hh) = 0
    · have l1 := sub_lt q1 hs
      have l2 := sub_lt q2 ht
      have w1 := wsum_le hw L
      have w2 := fsum_le hw P
      have w3 := sr_le hw
      have w4 : c 6 ≤ 99 := hw.2.2.2.1
      have w8 : c 5 ≤ 999 := hw.2.2.1.2
      have w5 : nee c (c 6 + sB (wt c) L (c 1)) ≤ 64 := by unfold nee; omega
      rw [if_pos q1, if_pos q2, if_pos ⟨q1, q2⟩, r_weight h hw]
      simp only [Option.bind_some]
      rw [r_need h hw hb hT (by omega), r_forces h hw hb hT, EY_n h (i := 5) (by omega) (by omega)]
      simp (disch := omega) only [Option.bind_some, n_lt, n_eq]
      unfold crs2
      by_cases c1 : c 5 < c 6 + sB (wt c) L (c 1)
      · rw [if_pos c1, if_neg (fun e => absurd e.1 (by omega))]
        rfl
      · rw [if_neg c1]
        by_cases c2 : sB (fo c) P (c 1) < nee c (c 6 + sB (wt c) L (c 1))
        · rw [if_pos c2, if_neg (fun e => absurd e.2.1 (by omega))]
          rfl
        · rw [if_neg c2]
          by_cases c5 : sB (fo c) P (c 1) = 0
          · rw [if_pos c5, if_neg (fun e => e.2.2.1 c5)]
            rfl
          · rw [if_neg c5, r_with_L h hw (c 13) 0 FU (by omega) (by rw [FUe]; have : c 13 ≤ 12 := hw.2.2.2.2.2.2.1; omega), show allF (wokB c L) 0 (c 13) = wok c L from rfl]
            by_cases c3 : wok c L = true
            · rw [if_pos c3, n_or, r_may h hw, r_may h hw, r_may h hw]
              simp only [Option.bind_some, bI_0]
              cases m1 : may c (sd hh L)
              · rw [if_pos rfl, if_neg (fun e => Bool.noConfusion e.2.2.2.2.1)]
                rfl
              · cases m2 : may c (sd (al c) hh)
                · rw [if_neg (by decide), if_pos rfl, if_neg (fun e => Bool.noConfusion e.2.2.2.2.2.1)]
                  rfl
                · cases m3 : may c (sd (al c) hh ||| L)
                  · rw [if_neg (by decide), if_neg (by decide), if_pos rfl, if_neg (fun e => Bool.noConfusion e.2.2.2.2.2.2)]
                    rfl
                  · rw [if_neg (by decide), if_neg (by decide), if_neg (by decide), if_pos ⟨by omega, by omega, c5, c3, rfl, rfl, rfl⟩, r_mins h hw w5 (by omega) (by omega)]
                    have hm : ¬ mins c (nee c (c 6 + sB (wt c) L (c 1))) (sB (fo c) P (c 1)) = 0 := by unfold mins; omega
                    unfold rY
                    rw [decide_eq_true hm, if_neg hm]
                    rfl
            · rw [if_neg c3, if_neg (fun e => c3 e.2.2.2.1)]
              rfl
    · rw [if_pos q1, if_neg q2, if_neg (fun e => q2 e.2)]
      rfl
  · rw [if_neg q1, if_neg (fun e => q1 e.1)]
    rfl
theorem r_cross {Y : Mem} {c : Nat → Nat} {T : Nat} (h : EY Y c) (hw : WR c) (hb : WB T c) (hT : T ≤ 520) {ov bk L P : Nat} (hs : ov < 2 ^ c 1) (hk : bk < 2) (hL : L < 4294967296) (hP : P < 4294967296) : md_mayCross (nI ov) (nI bk) (nI L) (nI P) Y = some (bI (decide (¬ crs c ov bk L P = 0)), rY Y (crs c ov bk L P)) := by
  have hh := here_lt (bk := bk) hw hs
  have h10 := pw_10 (WR_n hw)
  unfold md_mayCross
  rw [r_all h hw]
  simp (disch := omega) only [n_lit, Option.bind_some, n_sd, n_eq]
  have := r_cross_J h hw hb hT hh hL hP (p1 := nI ov) (p2 := nI bk)
  unfold crs here
  unfold here at this
  by_cases q : bk = 0
  · rw [if_pos q] at this
    rw [if_pos q, if_pos q]
    exact this
  · rw [if_neg q] at this
    rw [if_neg q, if_neg q]
    exact this
/-! a swim -/
theorem sB_one {f : Nat → Nat} {b : Nat} : ∀ {n : Nat}, sB f (2 ^ b) n = if b < n then f b else 0
  | 0 => by rw [if_neg (by omega)]; rfl
  | n + 1 => by
    have ih := sB_one (f := f) (b := b) (n := n)
    unfold sB
    rw [ih, Nat.testBit_two_pow]
    by_cases q : b = n
    · subst q
      rw [if_neg (by omega), decide_eq_true rfl, if_pos rfl, if_pos (by omega), Nat.zero_add]
    · rw [decide_eq_false q, if_neg Bool.false_ne_true, Nat.add_zero]
      by_cases q2 : b < n
      · rw [if_pos q2, if_pos (by omega)]
      · rw [if_neg q2, if_neg (by omega)]
theorem oB_one {f : Nat → Nat} {b : Nat} : ∀ {n : Nat}, oB f (2 ^ b) n = if b < n then f b else 0
  | 0 => by rw [if_neg (by omega)]; rfl
  | n + 1 => by
    have ih := oB_one (f := f) (b := b) (n := n)
    unfold oB
    rw [ih, Nat.testBit_two_pow]
    by_cases q : b = n
    · subst q
      rw [if_neg (Nat.lt_irrefl b), decide_eq_true rfl, if_pos rfl, if_pos (Nat.lt_succ_self b), Nat.zero_or]
    · rw [decide_eq_false q, if_neg Bool.false_ne_true]
      by_cases q2 : b < n
      · rw [if_pos q2, if_pos (by omega)]
      · rw [if_neg q2, if_neg (by omega)]
theorem frm_lt {c : Nat → Nat} {ov b : Nat} (hw : WR c) (h : ov < 2 ^ c 1) : frm c ov b < 2 ^ c 1 := by
  unfold frm
  split
  · exact h
  · exact there_lt _ hw
theorem and_pw {a b : Nat} : (a &&& 2 ^ b = 0) = (a.testBit b = false) := by
  refine propext ⟨fun h => ?_, fun h => ?_⟩
  · have h1 : (a &&& 2 ^ b).testBit b = false := by rw [h, Nat.zero_testBit]
    simpa only [Nat.testBit_and, Nat.testBit_two_pow, decide_true, Bool.and_true] using h1
  · refine Nat.eq_of_testBit_eq fun i => ?_
    simp only [Nat.testBit_and, Nat.testBit_two_pow, Nat.zero_testBit]
    by_cases q1 : b = i
    · rw [← q1, h]; rfl
    · rw [decide_eq_false q1, Bool.and_false]
theorem k_swim_J {X : Mem} {c : Nat → Nat} (h : MV X c) {ov b : Nat} {p1 p2 : Int32} (hs : ov < 2 ^ c 1) (hb : b < c 1) : mv_swimming_J48 p1 p2 (nI (2 ^ b)) (nI (frm c ov b)) X = some (mI (swm c ov b)) := by
  have hh := frm_lt (b := b) h.2.2 hs
  obtain ⟨hR, hM, hw⟩ := id h
  have h10 := pw_10 (WR_n hw)
  have ht := there_lt (frm c ov b) hw
  have l1 := pw_lt hb
  have w1 := fo_le hw hb
  have w3 := sr_le hw
  have w4 : c 7 ≤ 60 := hw.2.2.2.2.1.2
  have w6 := co_lt hw b (c 13) (Nat.le_refl _)
  have w8 := mk_lt (fun b => decide (sm c b = 1)) (c 1)
  have w9 := and_lt (mk (fun b => decide (sm c b = 1)) (c 1)) l1
  unfold mv_swimming_J48
  rw [hR.2.2.2.1, hM.1, hM.2.1, hR.2.2.2.2.1.2.2]
  simp (disch := omega) only [n_lit, n_and, n_eq, chk_in, n_cl, n_sd, and_pw, mk_tb]
  rw [(hM.2.2 _ l1).2.1, (hM.2.2 _ l1).2.2.1, sB_one, oB_one, if_pos hb, if_pos hb, k_peace h hh ht l1]
  simp (disch := omega) only [n_lt, n_eq, Option.bind_some, bI_0, n_add]
  rw [decide_eq_true hb, Bool.true_and]
  unfold swm
  by_cases c1 : sm c b = 1
  · rw [decide_eq_true c1, if_neg (by decide)]
    by_cases c2 : fo c b < sr c
    · rw [if_pos c2, if_neg (fun e => absurd e.2.1 (by omega))]
      rfl
    · rw [if_neg c2]
      by_cases c3 : co c b (c 13) = 0
      · rw [if_pos c3]
        cases c4 : may c (sd (frm c ov b) (2 ^ b)) && (may c (sd (al c) (frm c ov b)) && may c (sd (al c) (frm c ov b) ||| 2 ^ b))
        · rw [if_pos rfl, if_neg ?_]
          · rfl
          · rintro ⟨-, -, -, e1, e2, e3⟩
            rw [e1, e2, e3] at c4
            exact Bool.noConfusion c4
        · simp only [Bool.and_eq_true] at c4
          rw [if_neg (by decide), if_pos ⟨c1, by omega, c3, c4.1, c4.2.1, c4.2.2⟩]
          unfold mI
          rw [if_neg (by have := hw.2.2.2.2.1.1; omega)]
      · rw [if_neg c3, if_neg (fun e => c3 e.2.2.1)]
        rfl
  · rw [decide_eq_false c1, if_pos rfl, if_neg (fun e => c1 e.1)]
    rfl
theorem k_swim {X : Mem} {c : Nat → Nat} (h : MV X c) {s b : Nat} (hs : s / 2 < 2 ^ c 1) (hb : b < c 1) : mv_swimming (nI s) (nI b) X = some (mI (swm c (s / 2) b)) := by
  obtain ⟨hR, hM, hw⟩ := id h
  have h10 := pw_10 (WR_n hw)
  have hn := WR_n hw
  have l1 := pw_lt hb
  have w9 := and_lt (s / 2) l1
  unfold mv_swimming
  rw [k_hasYes hR.2.1 hw hb, hM.1]
  simp (disch := omega) only [n_lit, Option.bind_some, n_eq, if_neg, lt1_ap, n_shr, n_shl1, n_and, m31, Nat.pow_one, n_sd]
  rw [and_al hs]
  simp (disch := omega) only [n_and, n_eq, and_pw]
  have := k_swim_J h hs hb (p1 := nI s) (p2 := nI b)
  unfold frm at this
  cases q : (s / 2).testBit b
  · rw [if_pos rfl]
    rw [q, if_neg (by decide)] at this
    exact this
  · rw [if_neg (by decide)]
    rw [q, if_pos rfl] at this
    exact this
theorem r_hasWith_L {Y : Mem} {c : Nat → Nat} (h : EY Y c) (hw : WR c) {b : Nat} (hb : b < 10) : ∀ m k fu, k + m = c 13 → m < fu → md_hasWith_L2 (nI b) Y (some (nI 0)) fu (nI k) = some (bI (!allF (fun k => !decide (c (124 + 2 * k) = b)) k m))
  | 0, k, 0, _, hf => absurd hf (by omega)
  | 0, k, fu + 1, hk, _ => by
    have h1 : c 13 ≤ 12 := hw.2.2.2.2.2.2.1
    rw [md_hasWith_L2, EY_n h (i := 13) (by omega) (by omega)]
    simp (disch := omega) only [n_lt, if_neg]
    rfl
  | m + 1, k, 0, _, hf => absurd hf (by omega)
  | m + 1, k, fu + 1, hk, hf => by
    have h1 : c 13 ≤ 12 := hw.2.2.2.2.2.2.1
    have h10 := WR_n hw
    have ih := r_hasWith_L h hw hb m (k + 1) fu (by omega) (by omega)
    have h3 := hw.2.2.2.2.2.2.2.2.2.2 k (by omega)
    rw [md_hasWith_L2, EY_n h (i := 13) (by omega) (by omega)]
    simp (disch := omega) only [n_lit, n_mul, n_add, n_lt, if_pos, chk_in, n_cl]
    rw [EY_n h (i := 124 + 2 * k) (by omega) (by omega), ih]
    simp (disch := omega) only [n_eq]
    show _ = some (bI (!(!decide (c (124 + 2 * k) = b) && allF (fun k => !decide (c (124 + 2 * k) = b)) (k + 1) m)))
    by_cases q : c (124 + 2 * k) = b
    · rw [if_pos q, decide_eq_true q]
      rfl
    · rw [if_neg q, decide_eq_false q]
      rfl
theorem r_hasWith {Y : Mem} {c : Nat → Nat} (h : EY Y c) (hw : WR c) {b : Nat} (hb : b < 10) : md_hasWith (nI b) Y = some (bI (!decide (co c b (c 13) = 0))) := by
  have h1 : c 13 ≤ 12 := hw.2.2.2.2.2.2.1
  unfold md_hasWith
  have e := r_hasWith_L h hw hb (c 13) 0 FU (by omega) (by rw [FUe]; omega)
  refine e.trans ?_
  congr 2
  have e2 : allF (fun k => !decide (c (124 + 2 * k) = b)) 0 (c 13) = true ↔ co c b (c 13) = 0 := by
    rw [allF_iff, co_0]
    constructor
    · intro h2 k hk
      have := h2 k (by omega) (by omega)
      simpa using this
    · intro h2 j _ hj
      have := h2 j (by omega)
      simpa using this
  cases q : allF (fun k => !decide (c (124 + 2 * k) = b)) 0 (c 13)
  · rw [decide_eq_false (p := co c b (c 13) = 0) (fun e3 => by rw [e2.mpr e3] at q; exact Bool.noConfusion q)]
  · rw [decide_eq_true (e2.mp q)]
theorem r_swim_J {Y : Mem} {c : Nat → Nat} {T : Nat} (h : EY Y c) (hw : WR c) (hb : WB T c) (hT : T ≤ 520) {ov b : Nat} {p1 : Int32} (hs : ov < 2 ^ c 1) (hn : b < c 1) : md_maySwim_J22 p1 (nI b) (nI (al c)) (nI (frm c ov b)) Y = some (bI (decide (¬ swm c ov b = 0))) := by
  have h10 := WR_n hw
  have w1 := fo_le hw hn
  have w3 := sr_le hw
  have w4 := hw.2.2.2.2.1.1
  have w5 : c (38 + 5 * b + 3) ≤ 1 := (hw.2.2.2.2.2.2.2.2.1 b hn).2.2.2.2
  unfold md_maySwim_J22
  rw [show (3 : Int32) = nI 3 from rfl, r_of h (by omega) (by omega), r_force h hw hb hT hn, r_stream h hb hT, r_hasWith h hw (by omega)]
  simp (disch := omega) only [n_lit, n_m31, n_shl1, n_sd, n_or, Option.bind_some, n_eq, n_lt, bI_0, r_may h hw]
  unfold swm
  by_cases c1 : sm c b = 1
  · rw [if_neg (show ¬ c (38 + 5 * b + 3) = 0 by have : c (38 + 5 * b + 3) = 1 := c1; omega)]
    by_cases c2 : fo c b < sr c
    · rw [if_pos c2, if_neg (fun e => absurd e.2.1 (by omega))]
      rfl
    · rw [if_neg c2]
      by_cases c3 : co c b (c 13) = 0
      · rw [decide_eq_true c3, if_pos (show (!true) = false from rfl)]
        cases m1 : may c (sd (frm c ov b) (2 ^ b))
        · rw [if_pos rfl, if_neg (fun e => Bool.noConfusion e.2.2.2.1)]
          rfl
        · cases m2 : may c (sd (al c) (frm c ov b))
          · rw [if_neg (by decide), if_pos rfl, if_neg (fun e => Bool.noConfusion e.2.2.2.2.1)]
            rfl
          · cases m3 : may c (sd (al c) (frm c ov b) ||| 2 ^ b)
            · rw [if_neg (by decide), if_neg (by decide), if_pos rfl, if_neg (fun e => Bool.noConfusion e.2.2.2.2.2)]
              rfl
            · rw [if_neg (by decide), if_neg (by decide), if_neg (by decide), if_pos ⟨c1, by omega, c3, rfl, rfl, rfl⟩, decide_eq_true (by omega)]
              rfl
      · rw [decide_eq_false c3, if_neg (show ¬ (!false) = false by decide), if_neg (fun e => c3 e.2.2.1)]
        rfl
  · rw [if_pos (show c (38 + 5 * b + 3) = 0 by have : ¬ c (38 + 5 * b + 3) = 1 := c1; omega), if_neg (fun e => c1 e.1)]
    rfl
theorem r_swim {Y : Mem} {c : Nat → Nat} {T : Nat} (h : EY Y c) (hw : WR c) (hb : WB T c) (hT : T ≤ 520) {ov b : Nat} (hs : ov < 2 ^ c 1) (hn : b < c 1) : md_maySwim (nI ov) (nI b) Y = some (bI (decide (¬ swm c ov b = 0))) := by
  have h10 := WR_n hw
  unfold md_maySwim
  rw [r_all h hw, r_isOf (by omega)]
  simp only [n_lit, Option.bind_some, bI_0, n_sd]
  have := r_swim_J h hw hb hT hs hn (p1 := nI ov)
  unfold frm at this
  cases q : ov.testBit b
  · rw [if_pos rfl]
    rw [q, if_neg (by decide)] at this
    exact this
  · rw [if_neg (by decide)]
    rw [q, if_pos rfl] at this
    exact this
