/-! the reference reads a text -/
theorem wr_same {M : Mem} {r i : Nat} {v : Int32} (h : M r i = v) : wr M r i v = M := funext fun r' => funext fun i' => by
  unfold wr
  by_cases q : r' = r ∧ i' = i
  · rw [if_pos q, q.1, q.2, h]
  · rw [if_neg q]
theorem wr_wr {M : Mem} {r i : Nat} {v w : Int32} : wr (wr M r i v) r i w = wr M r i w := funext fun r' => funext fun i' => by
  unfold wr
  by_cases q : r' = r ∧ i' = i
  · rw [if_pos q, if_pos q]
  · rw [if_neg q, if_neg q, if_neg q]
def setA (Y : Mem) (p : Nat) : Mem := wr Y 0 9 (nI p)
/-- the text: bytes b, to e -/
def LTx (Y : Mem) (b : Nat → Nat) (e : Nat) : Prop := Y 0 8 = nI e ∧ e ≤ 400 ∧ (∀ k, k < e → b k ≤ 255) ∧ ((Y 0 7 = -1 ∧ ∀ k, k < e → Y 4 k = nI (b k)) ∨ (Y 0 7 = nI 248 ∧ ∀ k, k < e → Y 1 (248 + k) = nI (b k)))
theorem LTx_cong {Y Y' : Mem} {b : Nat → Nat} {e : Nat} (h : LTx Y b e) (h2 : ∀ r i, ((r = 0 ∧ (i = 7 ∨ i = 8)) ∨ r = 4 ∨ (r = 1 ∧ 248 ≤ i)) → Y' r i = Y r i) : LTx Y' b e := by
  obtain ⟨h1, h3, h4, h5⟩ := h
  refine ⟨by rw [h2 _ _ (by omega), h1], h3, h4, ?_⟩
  rcases h5 with ⟨a, d⟩ | ⟨a, d⟩
  · exact Or.inl ⟨by rw [h2 _ _ (by omega), a], fun k hk => by rw [h2 _ _ (by omega)]; exact d k hk⟩
  · exact Or.inr ⟨by rw [h2 _ _ (by omega), a], fun k hk => by rw [h2 _ _ (by omega)]; exact d k hk⟩
theorem LTx_A {Y : Mem} {b : Nat → Nat} {e : Nat} (h : LTx Y b e) (p : Nat) : LTx (setA Y p) b e := LTx_cong h fun r i hr => by unfold setA; rw [wr_ne (by omega)]
theorem r_letter {Y : Mem} {b : Nat → Nat} {e k : Nat} (h : LTx Y b e) (hk : k < e) : md_letter (nI k) Y = some (nI (b k)) := by
  obtain ⟨h1, h3, h4, h5⟩ := h
  unfold md_letter
  rcases h5 with ⟨a, d⟩ | ⟨a, d⟩
  · rw [a, if_pos rfl, chk_in (by omega) (by omega), n_cl (by omega), d k hk]
  · rw [a, if_neg (nI_nm (by omega)), n_add, chk_in (by omega) (by omega), n_cl (by omega), d k hk]
theorem rsk_L {b : Nat → Nat} {e : Nat} {K : Mem → Option Mem} : ∀ m a fu (Y : Mem), e - a = m → m < fu → a ≤ 100000 → LTx Y b e → Y 0 9 = nI a → md_skip_L0 K fu Y = K (setA Y (skp b e a)) := by
  intro m
  induction m with
  | zero =>
    intro a fu Y hm hf ha hL h9
    obtain ⟨fu, rfl⟩ : ∃ f, fu = f + 1 := ⟨fu - 1, by omega⟩
    have he := hL.2.1
    have es : skp b e a = a := run_stop fun h => by omega
    rw [md_skip_L0, h9, hL.1, if_neg (by rw [n_lt (by omega) (by omega)]; omega), es]
    unfold setA
    rw [wr_same h9]
  | succ m ih =>
    intro a fu Y hm hf ha hL h9
    obtain ⟨fu, rfl⟩ : ∃ f, fu = f + 1 := ⟨fu - 1, by omega⟩
    have he := hL.2.1
    have hb := hL.2.2.1 a (by omega)
    rw [md_skip_L0, h9, hL.1, if_pos (by rw [n_lt (by omega) (by omega)]; omega), r_letter hL (by omega), bind_s]
    by_cases q : b a = 32
    · have es : skp b e a = skp b e (a + 1) := run_go (by omega) (decide_eq_true q)
      rw [if_pos (show nI (b a) = 32 by rw [q]; rfl), lt1_ap]
      have := ih (a + 1) fu (setA Y (a + 1)) (by omega) (by omega) (by omega) (LTx_A hL _) wr_eq
      rw [es]
      unfold setA at this ⊢
      rw [wr_wr] at this
      rw [n_lit, n_add]
      exact this
    · have es : skp b e a = a := run_stop fun h => q (by have := h.2; rw [decide_eq_true_iff] at this; exact this)
      rw [if_neg (show ¬ nI (b a) = 32 by rw [n_lit, n_eq (by omega) (by omega)]; exact q), es]
      unfold setA
      rw [wr_same h9]
theorem r_skip {Y : Mem} {b : Nat → Nat} {e a : Nat} (hL : LTx Y b e) (h9 : Y 0 9 = nI a) (ha : a ≤ 100000) : md_skip Y = some (setA Y (skp b e a)) := rsk_L (K := fun M4 => some M4) (e - a) a FU Y rfl (by rw [FUe]; have := hL.2.1; omega) ha hL h9
theorem skp_b {b : Nat → Nat} {e a : Nat} : skp b e a < e → ¬ b (skp b e a) = 32 := fun h q => by
  have := run_out (q := fun i => decide (b i = 32)) h
  have h2 : b (run (fun i => decide (b i = 32)) e a) = 32 := q
  rw [h2] at this
  exact Bool.noConfusion this
theorem skp_skp {b : Nat → Nat} {e a : Nat} : skp b e (skp b e a) = skp b e a := run_run
theorem skp_bd {b : Nat → Nat} {e a : Nat} : a ≤ skp b e a ∧ skp b e a ≤ max a e := by
  refine ⟨run_ge, ?_⟩
  by_cases q : a ≤ e
  · have := run_le (q := fun i => decide (b i = 32)) q
    unfold skp
    omega
  · have : skp b e a = a := run_stop fun h => by omega
    omega
theorem r_isIn {Y : Mem} {x lo up : Nat} (h : x < 2147483648) (h1 : lo < 2147483648) (h2 : up < 2147483648) : md_isIn (nI x) (nI lo) (nI up) Y = some (bI (decide (lo ≤ x ∧ x ≤ up))) := by
  unfold md_isIn
  simp (disch := omega) only [n_lit, n_lt]
  by_cases c1 : x < lo
  · rw [if_pos c1, decide_eq_false (by omega)]; rfl
  · rw [if_neg c1]
    by_cases c2 : up < x
    · rw [if_pos c2, decide_eq_false (by omega)]; rfl
    · rw [if_neg c2, decide_eq_true (by omega)]; rfl
theorem r_sign {Y : Mem} {b : Nat → Nat} {e a ch : Nat} (hL : LTx Y b e) (h9 : Y 0 9 = nI a) (ha : a ≤ 100000) (hc : ch ≤ 255) : md_isSign (nI ch) Y = some (bI (decide (skp b e a < e ∧ b (skp b e a) = ch)), setA Y (skp b e a)) := by
  have he := hL.2.1
  have hs := skp_bd (b := b) (e := e) (a := a)
  have hL2 := LTx_A hL (skp b e a)
  unfold md_isSign
  rw [r_skip hL h9 ha, bind_s, show setA Y (skp b e a) 0 9 = nI (skp b e a) from wr_eq, hL2.1]
  by_cases q : skp b e a < e
  · have hb := hL.2.2.1 _ q
    rw [if_pos (by rw [n_lt (by omega) (by omega)]; exact q), r_letter hL2 q, bind_s]
    by_cases q2 : b (skp b e a) = ch
    · rw [if_pos (by rw [q2]), decide_eq_true ⟨q, q2⟩]; rfl
    · rw [if_neg (by rw [n_eq (by omega) (by omega)]; exact q2), decide_eq_false (fun h => q2 h.2)]; rfl
  · rw [if_neg (by rw [n_lt (by omega) (by omega)]; exact q), decide_eq_false (fun h => q h.1)]; rfl
/-- the word w stands at p -/
def hasB (b : Nat → Nat) (e p w : Nat) : Bool := decide (kL b e p - p = slen w) && allF (fun j => decide (wN w j = b (p + j))) 0 (slen w)
theorem rh9_L {Y : Mem} {b : Nat → Nat} {e w : Nat} (hL : LTx Y b e) {K : Int32 → Option (Int32 × Mem)} : ∀ m x fu, e - x = m → m < fu → x ≤ 100500 → md_has_L9 w Y K fu (nI x) = K (nI (kL b e x)) := by
  intro m
  induction m with
  | zero =>
    intro x fu hm hf hx
    obtain ⟨fu, rfl⟩ : ∃ f, fu = f + 1 := ⟨fu - 1, by omega⟩
    have he := hL.2.1
    have es : kL b e x = x := run_stop fun h => by omega
    rw [md_has_L9, hL.1, if_neg (by rw [n_lt (by omega) (by omega)]; omega), es]
  | succ m ih =>
    intro x fu hm hf hx
    obtain ⟨fu, rfl⟩ : ∃ f, fu = f + 1 := ⟨fu - 1, by omega⟩
    have he := hL.2.1
    have hb := hL.2.2.1 x (by omega)
    rw [md_has_L9, hL.1, if_pos (by rw [n_lt (by omega) (by omega)]; omega), r_letter hL (by omega), bind_s, show md_isIn (nI (b x)) 97 122 Y = md_isIn (nI (b x)) (nI 97) (nI 122) Y from rfl, r_isIn (by omega) (by omega) (by omega), bind_s]
    by_cases q : ltB (b x) = true
    · have es : kL b e x = kL b e (x + 1) := run_go (by omega) q
      rw [show decide (97 ≤ b x ∧ b x ≤ 122) = ltB (b x) from rfl, ifb_t q, es, n_lit, n_add]
      exact ih (x + 1) fu (by omega) (by omega) (by omega)
    · have es : kL b e x = x := run_stop fun h => q h.2
      rw [show decide (97 ≤ b x ∧ b x ≤ 122) = ltB (b x) from rfl, ifb_f (Bool.eq_false_iff.mpr q), es]
theorem rh55_L {Y : Mem} {b : Nat → Nat} {e w P : Nat} (hL : LTx Y b e) (h9 : Y 0 9 = nI P) (hw : w < 58) (hP : P + slen w ≤ e) {y2 : Int32} {K : Option (Int32 × Mem)} : ∀ m j fu, j + m = slen w → m < fu → md_has_L55 w y2 Y K fu (nI j) = if allF (fun j => decide (wN w j = b (P + j))) j m = true then K else some (nI 0, Y)
  | 0, j, 0, _, hf => absurd hf (by omega)
  | 0, j, fu + 1, hk, _ => by
    have hl := slen_le w hw
    rw [md_has_L55, show Int32.ofNat (slen w) = nI (slen w) from rfl, if_neg (by rw [n_lt (by omega) (by omega)]; omega)]
    rfl
  | m + 1, j, 0, _, hf => absurd hf (by omega)
  | m + 1, j, fu + 1, hk, hf => by
    have he := hL.2.1
    have hl := slen_le w hw
    have hb := hL.2.2.1 (P + j) (by omega)
    have hwj := wN_eq w hw j (by omega)
    have ih := rh55_L hL h9 hw hP (y2 := y2) (K := K) m (j + 1) fu (by omega) (by omega)
    have hwn : wN w j < 4294967296 := by
      have : ∀ w, w < 58 → ∀ j, j < slen w → wN w j < 256 := by decide +kernel
      have := this w hw j (by omega)
      omega
    rw [md_has_L55, show Int32.ofNat (slen w) = nI (slen w) from rfl, if_pos (by rw [n_lt (by omega) (by omega)]; omega), h9, n_add, r_letter hL (by omega), bind_s, chk_in (by omega) (by omega), n_cl (by omega), hwj, n_lit, n_add, ih]
    show _ = if (decide (wN w j = b (P + j)) && allF (fun j => decide (wN w j = b (P + j))) (j + 1) m) = true then K else some (nI 0, Y)
    by_cases q : wN w j = b (P + j)
    · rw [if_pos (by rw [q]), decide_eq_true q, Bool.true_and]
    · rw [if_neg (by rw [n_eq (by omega) (by omega)]; exact fun h => q h.symm), decide_eq_false q]
      rfl
theorem r_has {Y : Mem} {b : Nat → Nat} {e a w : Nat} (hL : LTx Y b e) (h9 : Y 0 9 = nI a) (ha : a ≤ 100000) (hw : w < 58) (h0 : 0 < slen w) : md_has w Y = some (bI (hasB b e (skp b e a) w), setA Y (if hasB b e (skp b e a) w = true then kL b e (skp b e a) else skp b e a)) := by
  have he := hL.2.1
  have hs := skp_bd (b := b) (e := e) (a := a)
  have hl := slen_le w hw
  have hL2 := LTx_A hL (skp b e a)
  have h92 : setA Y (skp b e a) 0 9 = nI (skp b e a) := wr_eq
  have g1 : skp b e a ≤ kL b e (skp b e a) := run_ge
  have g2 : kL b e (skp b e a) ≤ max (skp b e a) e := by
    by_cases q : skp b e a ≤ e
    · have := run_le (q := fun i => ltB (b i)) q
      unfold kL
      omega
    · have : kL b e (skp b e a) = skp b e a := run_stop fun h => by omega
      omega
  unfold md_has
  rw [r_skip hL h9 ha, bind_s, h92, rh9_L hL2 (e - skp b e a) (skp b e a) FU rfl (by rw [FUe]; omega) (by omega)]
  unfold md_has_J38
  rw [h92, n_sub g1, show Int32.ofNat (slen w) = nI (slen w) from rfl]
  unfold hasB
  by_cases q : kL b e (skp b e a) - skp b e a = slen w
  · rw [if_pos (by rw [q]), decide_eq_true q, Bool.true_and, n_lit 0]
    refine (rh55_L hL2 h92 hw (by omega) (slen w) 0 FU (by omega) (by rw [FUe]; omega)).trans ?_
    cases hA : allF (fun j => decide (wN w j = b (skp b e a + j))) 0 (slen w)
    · rw [if_neg (by decide), if_neg (by decide)]
      rfl
    · rw [if_pos rfl, if_pos rfl, lt1_ap]
      unfold setA
      rw [wr_wr]
      rfl
  · rw [if_neg (by rw [n_eq (by omega) (by omega)]; exact q), decide_eq_false q, Bool.false_and, if_neg (by decide)]
    rfl
/-! words and the class's things -/
theorem stx_diff : ∀ i, i < 29 → 3 ≤ i → ∀ j, j < i → ¬ slen (stx j) = slen (stx i) ∨ ∃ k, k < slen (stx i) ∧ ¬ wN (stx j) k = wN (stx i) k := by decide +kernel
theorem stx_word : ∀ i, i < 23 → 3 ≤ i → 0 < slen (stx i) ∧ ∀ j, j < slen (stx i) → 97 ≤ wN (stx i) j ∧ wN (stx i) j ≤ 122 := by decide +kernel
theorem mtB_iff {b : Nat → Nat} {p r w : Nat} : mtB b p r w = true ↔ slen w = r - p ∧ ∀ j, j < slen w → wN w j = b (p + j) := by
  unfold mtB
  rw [Bool.and_eq_true, decide_eq_true_iff, allF_iff]
  constructor
  · rintro ⟨h1, h2⟩
    exact ⟨h1, fun j hj => by have := h2 j (Nat.zero_le _) (by omega); rw [decide_eq_true_iff] at this; exact this⟩
  · rintro ⟨h1, h2⟩
    exact ⟨h1, fun j _ hj => decide_eq_true (h2 j (by omega))⟩
theorem nm_iff {b : Nat → Nat} {p r i : Nat} (hi : i < 29) (h3 : 3 ≤ i) : nmC b p r = i + 1 ↔ mtB b p r (stx i) = true := by
  have hs := ff_spec (p := fun i => mtB b p r (stx i)) (m := 29) (k := 0)
  unfold nmC
  constructor
  · intro h
    by_cases q : ff (fun i => mtB b p r (stx i)) 0 29 < 29
    · rw [if_pos q] at h
      rcases hs with ⟨_, b1, _⟩ | ⟨a, _⟩
      · rw [show i = ff (fun i => mtB b p r (stx i)) 0 29 by omega]
        exact b1
      · omega
    · rw [if_neg q] at h
      omega
  · intro h
    rcases hs with ⟨a, b1, _, b2⟩ | ⟨_, b2⟩
    · rw [if_pos (by omega)]
      rcases Nat.lt_trichotomy (ff (fun i => mtB b p r (stx i)) 0 29) i with q | q | q
      · exfalso
        have h1 := mtB_iff.mp b1
        have h2 := mtB_iff.mp h
        rcases stx_diff i hi h3 _ q with d | ⟨k, hk, d⟩
        · omega
        · rw [h1.2 k (by omega), h2.2 k hk] at d
          exact d rfl
      · omega
      · have := b2 i (Nat.zero_le _) q
        rw [h] at this
        exact Bool.noConfusion this
    · have := b2 i (Nat.zero_le _) (by omega)
      rw [h] at this
      exact Bool.noConfusion this
/-- the reference's word w is the class's thing k -/
def WPr (w k : Nat) : Prop := w < 58 ∧ 4 ≤ k ∧ k ≤ 23 ∧ slen w = slen (stx (k - 1)) ∧ ∀ j, j < slen w → wN w j = wN (stx (k - 1)) j
theorem has_KD {b : Nat → Nat} {e p w k : Nat} (h : WPr w k) : (hasB b e p w = true ↔ KD b e p = k) ∧ (hasB b e p w = true → kL b e p = beh b e p ∧ p < e) := by
  obtain ⟨h1, h2, h3, h4, h5⟩ := h
  obtain ⟨w0, wl⟩ := stx_word (k - 1) (by omega) (by omega)
  have hB : hasB b e p w = true ↔ kL b e p - p = slen w ∧ ∀ j, j < slen w → wN w j = b (p + j) := by
    unfold hasB
    rw [Bool.and_eq_true, decide_eq_true_iff, allF_iff]
    constructor
    · rintro ⟨a1, a2⟩
      exact ⟨a1, fun j hj => by have := a2 j (Nat.zero_le _) (by omega); rw [decide_eq_true_iff] at this; exact this⟩
    · rintro ⟨a1, a2⟩
      exact ⟨a1, fun j _ hj => decide_eq_true (a2 j (by omega))⟩
  have step : hasB b e p w = true → p < e ∧ ltB (b p) = true ∧ dgB (b p) = false := fun h => by
    obtain ⟨a1, a2⟩ := hB.mp h
    have hpe : p < e := by
      refine Classical.byContradiction fun q => ?_
      have : kL b e p = p := run_stop fun h => by omega
      omega
    have hl := wl 0 w0
    have h0 := a2 0 (by omega)
    rw [h5 0 (by omega), Nat.add_zero] at h0
    refine ⟨hpe, ?_, ?_⟩
    · unfold ltB
      exact decide_eq_true (by omega)
    · unfold dgB
      exact decide_eq_false (by omega)
  have hbeh : hasB b e p w = true → beh b e p = kL b e p := fun h => by
    obtain ⟨_, s2, s3⟩ := step h
    unfold beh
    rw [s3, if_neg (by decide), if_pos s2]
  refine ⟨⟨fun h => ?_, fun h => ?_⟩, fun h => ⟨(hbeh h).symm, (step h).1⟩⟩
  · obtain ⟨s1, s2, s3⟩ := step h
    obtain ⟨a1, a2⟩ := hB.mp h
    have : mtB b p (beh b e p) (stx (k - 1)) = true := mtB_iff.mpr ⟨by rw [hbeh h]; omega, fun j hj => by rw [← h5 j (by omega)]; exact a2 j (by omega)⟩
    have h6 := (nm_iff (b := b) (p := p) (r := beh b e p) (show k - 1 < 29 by omega) (by omega)).mpr this
    unfold KD
    rw [if_pos s1, s3, if_neg (by decide), h6]
    omega
  · unfold KD at h
    by_cases q : p < e
    · rw [if_pos q] at h
      by_cases q2 : dgB (b p) = true
      · rw [if_pos q2] at h
        split at h <;> omega
      · rw [if_neg q2] at h
        have h6 := (nm_iff (b := b) (p := p) (r := beh b e p) (show k - 1 < 29 by omega) (by omega)).mp (by omega)
        obtain ⟨a1, a2⟩ := mtB_iff.mp h6
        have hl := wl 0 w0
        have h0 := a2 0 w0
        rw [Nat.add_zero] at h0
        have hlt : ltB (b p) = true := by unfold ltB; exact decide_eq_true (by omega)
        have eb : beh b e p = kL b e p := by unfold beh; rw [if_neg q2, if_pos hlt]
        refine hB.mpr ⟨by rw [← eb]; omega, fun j hj => by rw [h5 j hj]; exact a2 j (by omega)⟩
    · rw [if_neg q] at h
      omega
theorem stx_sign : slen (stx 23) = 1 ∧ slen (stx 24) = 1 ∧ slen (stx 25) = 1 ∧ slen (stx 26) = 1 ∧ slen (stx 27) = 1 ∧ slen (stx 28) = 1 ∧ wN (stx 23) 0 = 59 ∧ wN (stx 24) 0 = 40 ∧ wN (stx 25) 0 = 41 ∧ wN (stx 26) 0 = 60 ∧ wN (stx 27) 0 = 62 ∧ wN (stx 28) 0 = 43 := by decide +kernel
def SPr (ch k : Nat) : Prop := 24 ≤ k ∧ k ≤ 29 ∧ slen (stx (k - 1)) = 1 ∧ wN (stx (k - 1)) 0 = ch ∧ dgB ch = false ∧ ltB ch = false
theorem sign_KD {b : Nat → Nat} {e p ch k : Nat} (h : SPr ch k) : ((p < e ∧ b p = ch) ↔ KD b e p = k) ∧ ((p < e ∧ b p = ch) → beh b e p = p + 1) := by
  obtain ⟨h1, h2, h3, h4, h5, h6⟩ := h
  have hb : (p < e ∧ b p = ch) → beh b e p = p + 1 := fun h => by
    unfold beh
    rw [h.2, h5, h6, if_neg (by decide), if_neg (by decide)]
  refine ⟨⟨fun h => ?_, fun h => ?_⟩, hb⟩
  · have : mtB b p (beh b e p) (stx (k - 1)) = true := mtB_iff.mpr ⟨by rw [hb h]; omega, fun j hj => by rw [show j = 0 by omega, h4, Nat.add_zero, h.2]⟩
    have h7 := (nm_iff (b := b) (p := p) (r := beh b e p) (show k - 1 < 29 by omega) (by omega)).mpr this
    unfold KD
    rw [if_pos h.1, h.2, h5, if_neg (by decide), h7]
    omega
  · unfold KD at h
    by_cases q : p < e
    · rw [if_pos q] at h
      by_cases q2 : dgB (b p) = true
      · rw [if_pos q2] at h
        split at h <;> omega
      · rw [if_neg q2] at h
        have h7 := (nm_iff (b := b) (p := p) (r := beh b e p) (show k - 1 < 29 by omega) (by omega)).mp (by omega)
        obtain ⟨a1, a2⟩ := mtB_iff.mp h7
        have := a2 0 (by omega)
        rw [h4, Nat.add_zero] at this
        exact ⟨q, this.symm⟩
    · rw [if_neg q] at h
      omega
