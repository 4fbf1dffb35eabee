/-! the fair: draws; sums over those aboard; who is asked next -/
def dv (x : Int32) : Nat := x.toBitVec.toNat / 2 ^ 16 % 32768
theorem dv_lt {x : Int32} : dv x < 32768 := Nat.mod_lt _ (by decide)
theorem dv_tb {x : Int32} {i : Nat} : (dv x).testBit i = (decide (i < 15) && bt x (16 + i)) := by
  unfold dv bt
  rw [show 32768 = 2 ^ 15 from rfl, Nat.testBit_mod_two_pow, Nat.testBit_div_two_pow, Nat.add_comm i 16]
  rfl
theorem m32767 : ∀ i, i < 32 → bt (nI 32767) i = decide (i < 15) := by decide +kernel
theorem k_dv {x : Int32} : (x >>> nI 16) &&& nI 32767 = nI (dv x) := b_ext fun i hi => by
  rw [b_and, b_sshr 16 (by omega) _ hi, m32767 i hi, b_nI _ hi, dv_tb]
  by_cases q : i < 15
  · rw [decide_eq_true q, Bool.and_true, Bool.true_and, if_pos (by omega)]
  · rw [decide_eq_false q, Bool.and_false, Bool.false_and]
theorem r_dv {x : Int32} : iushr x (nI 16) &&& nI 32767 = nI (dv x) := b_ext fun i hi => by
  rw [b_and, b_iushr (by omega) x hi, m32767 i hi, b_nI _ hi, dv_tb]
  by_cases q : i < 15
  · rw [decide_eq_true q, Bool.and_true, Bool.true_and, decide_eq_true (by omega), Bool.true_and]
  · rw [decide_eq_false q, Bool.and_false, Bool.false_and]
def nxS (s : Int32) : Int32 := 1103515245 * s + 12345
theorem k_draw {M : Mem} : mk_draw M = some (nI (dv (nxS (M 89 8))), wr M 89 8 (nxS (M 89 8))) := by
  unfold mk_draw
  rw [lt1_ap, wr_eq, show (16 : Int32) &&& 31 = nI 16 from by decide, show (32767 : Int32) = nI 32767 from rfl, k_dv]
  rfl
theorem r_draw {M : Mem} {d : Nat} (h0 : 0 < d) (hd : d < 2147483648) : md_draw (nI d) M = some (nI (dv (nxS (M 0 27)) % d), wr M 0 27 (nxS (M 0 27))) := by
  have h1 := dv_lt (x := 1103515245 * M 0 27 + 12345)
  unfold md_draw
  rw [lt1_ap, wr_eq, show (0 : Int32) = nI 0 from rfl, chk_nz h0 hd, show (16 : Int32) = nI 16 from rfl, show (32767 : Int32) = nI 32767 from rfl, r_dv, n_rem (by omega) h0 hd]
  rfl
def sF (f : Nat → Nat) (p : Nat → Bool) : Nat → Nat
  | 0 => 0
  | n + 1 => sF f p n + if p n = true then f n else 0
def xF (f : Nat → Nat) (p : Nat → Bool) : Nat → Nat
  | 0 => 0
  | n + 1 => max (xF f p n) (if p n = true then f n else 0)
def pz (p : Nat → Bool) (j i : Nat) : Bool := p i || decide (i = j)
theorem pz_eq {p : Nat → Bool} {j : Nat} : pz p j j = true := by unfold pz; rw [decide_eq_true rfl, Bool.or_true]
theorem pz_ne {p : Nat → Bool} {j i : Nat} (h : ¬ i = j) : pz p j i = p i := by unfold pz; rw [decide_eq_false h, Bool.or_false]
theorem sF_lo {f : Nat → Nat} {p : Nat → Bool} {j : Nat} : ∀ n, n ≤ j → sF f (pz p j) n = sF f p n
  | 0, _ => rfl
  | n + 1, h => by
    unfold sF
    rw [sF_lo n (by omega), pz_ne (by omega)]
theorem sF_set {f : Nat → Nat} {p : Nat → Bool} {j : Nat} (hp : p j = false) : ∀ n, j < n → sF f (pz p j) n = sF f p n + f j
  | 0, h => absurd h (by omega)
  | n + 1, h => by
    unfold sF
    by_cases q : j = n
    · subst q
      rw [sF_lo j (Nat.le_refl _), pz_eq, hp, if_pos rfl, if_neg (by decide)]
      omega
    · rw [sF_set hp n (by omega), pz_ne (by omega)]
      omega
theorem xF_lo {f : Nat → Nat} {p : Nat → Bool} {j : Nat} : ∀ n, n ≤ j → xF f (pz p j) n = xF f p n
  | 0, _ => rfl
  | n + 1, h => by
    unfold xF
    rw [xF_lo n (by omega), pz_ne (by omega)]
theorem xF_set {f : Nat → Nat} {p : Nat → Bool} {j : Nat} (hp : p j = false) : ∀ n, j < n → xF f (pz p j) n = max (xF f p n) (f j)
  | 0, h => absurd h (by omega)
  | n + 1, h => by
    unfold xF
    by_cases q : j = n
    · subst q
      rw [xF_lo j (Nat.le_refl _), pz_eq, hp, if_pos rfl, if_neg (by decide)]
      omega
    · rw [xF_set hp n (by omega), pz_ne (by omega)]
      omega
theorem sF_le {f : Nat → Nat} {p : Nat → Bool} {B : Nat} : ∀ n, (∀ i, i < n → f i ≤ B) → sF f p n ≤ n * B
  | 0, _ => Nat.zero_le _
  | n + 1, h => by
    have h1 := sF_le (p := p) n (fun i hi => h i (by omega))
    have h2 := h n (by omega)
    have e : (n + 1) * B = n * B + B := Nat.succ_mul n B
    unfold sF
    split <;> omega
theorem xF_le {f : Nat → Nat} {p : Nat → Bool} {B : Nat} : ∀ n, (∀ i, i < n → f i ≤ B) → xF f p n ≤ B
  | 0, _ => Nat.zero_le _
  | n + 1, h => by
    have h1 := xF_le (p := p) n (fun i hi => h i (by omega))
    have h2 := h n (by omega)
    unfold xF
    split <;> omega
theorem sF_f {f : Nat → Nat} : ∀ n, sF f (fun _ => false) n = 0
  | 0 => rfl
  | n + 1 => by
    unfold sF
    rw [sF_f n, if_neg (by decide)]
theorem xF_f {f : Nat → Nat} : ∀ n, xF f (fun _ => false) n = 0
  | 0 => rfl
  | n + 1 => by
    unfold xF
    rw [xF_f n, if_neg (by decide)]
    rfl
theorem sF_ones {p : Nat → Bool} : ∀ n, sF (fun _ => 1) p n ≤ n
  | 0 => Nat.le_refl _
  | n + 1 => by
    have := sF_ones (p := p) n
    unfold sF
    split <;> omega
theorem sF_all {p : Nat → Bool} : ∀ n, sF (fun _ => 1) p n = n → ∀ i, i < n → p i = true
  | 0, _, i, hi => absurd hi (by omega)
  | n + 1, h, i, hi => by
    have h1 := sF_ones (p := p) n
    unfold sF at h
    by_cases q : p n = true
    · rw [if_pos q] at h
      by_cases e : i = n
      · rw [e]; exact q
      · exact sF_all n (by omega) i (by omega)
    · rw [if_neg q] at h
      omega
theorem all_sF {p : Nat → Bool} : ∀ n, (∀ i, i < n → p i = true) → sF (fun _ => 1) p n = n
  | 0, _ => rfl
  | n + 1, h => by
    unfold sF
    rw [all_sF n (fun i hi => h i (by omega)), h n (by omega), if_pos rfl]
theorem sF_nz {f : Nat → Nat} {p : Nat → Bool} : ∀ n, (∀ i, i < n → 1 ≤ f i) → (sF f p n = 0 ↔ sF (fun _ => 1) p n = 0)
  | 0, _ => ⟨fun _ => rfl, fun _ => rfl⟩
  | n + 1, h => by
    have ih := sF_nz (p := p) n (fun i hi => h i (by omega))
    have h1 := h n (by omega)
    unfold sF
    by_cases q : p n = true
    · rw [if_pos q, if_pos q]
      omega
    · rw [if_neg q, if_neg q]
      omega
/-- who is next: the greatest number of those not asked, of several the first -/
def bN (nb : Nat → Nat) (k : Nat) : Option Nat → Option Nat
  | none => some k
  | some j => if nb j < nb k then some k else some j
def bF (nb : Nat → Nat) (ak : Nat → Bool) : Nat → Nat → Option Nat → Option Nat
  | 0, _, o => o
  | m + 1, k, o => bF nb ak m (k + 1) (if ak k = true then o else bN nb k o)
def eO : Option Nat → Int32
  | none => -1
  | some j => nI j
theorem bN_ok {nb : Nat → Nat} {ak : Nat → Bool} {w k : Nat} {o : Option Nat} (h : ∀ j, o = some j → j < w ∧ ak j = false) (hk : k < w) (ha : ak k = false) : ∀ j, bN nb k o = some j → j < w ∧ ak j = false := by
  intro j hj
  cases o with
  | none =>
    have : some k = some j := hj
    cases this
    exact ⟨hk, ha⟩
  | some i =>
    have h2 : (if nb i < nb k then some k else some i) = some j := hj
    by_cases q : nb i < nb k
    · rw [if_pos q] at h2
      cases h2
      exact ⟨hk, ha⟩
    · rw [if_neg q] at h2
      exact h j h2
theorem bF_ok {nb : Nat → Nat} {ak : Nat → Bool} {w : Nat} : ∀ m k o, k + m = w → (∀ j, o = some j → j < w ∧ ak j = false) → ∀ j, bF nb ak m k o = some j → j < w ∧ ak j = false
  | 0, k, o, _, h => h
  | m + 1, k, o, hk, h => by
    unfold bF
    by_cases q : ak k = true
    · rw [if_pos q]
      exact bF_ok m (k + 1) o (by omega) h
    · rw [if_neg q]
      exact bF_ok m (k + 1) _ (by omega) (bN_ok h (by omega) (Bool.eq_false_iff.mpr q))
theorem bN_some {nb : Nat → Nat} {k : Nat} {o : Option Nat} : ¬ bN nb k o = none := by
  cases o with
  | none => exact fun h => by cases (h : some k = none)
  | some i =>
    intro h
    have h2 : (if nb i < nb k then some k else some i) = none := h
    by_cases q : nb i < nb k
    · rw [if_pos q] at h2; cases h2
    · rw [if_neg q] at h2; cases h2
theorem bF_none {nb : Nat → Nat} {ak : Nat → Bool} : ∀ m k o, bF nb ak m k o = none → o = none ∧ ∀ i, k ≤ i → i < k + m → ak i = true
  | 0, k, o, h => ⟨h, fun i h1 h2 => absurd h2 (by omega)⟩
  | m + 1, k, o, h => by
    unfold bF at h
    by_cases q : ak k = true
    · rw [if_pos q] at h
      obtain ⟨a, d⟩ := bF_none m (k + 1) o h
      refine ⟨a, fun i h1 h2 => ?_⟩
      by_cases e : i = k
      · rw [e]; exact q
      · exact d i (by omega) (by omega)
    · rw [if_neg q] at h
      exact absurd (bF_none m (k + 1) _ h).1 bN_some
theorem kq_L {M : Mem} {w : Nat} {nb : Nat → Nat} {ak : Nat → Bool} (h7 : M 89 7 = nI w) (hw : w ≤ 40) (hn : ∀ i, i < w → M 92 i = nI (nb i) ∧ nb i ≤ 999 ∧ M 93 i = bI (ak i)) {K : Int32 → Option Int32} : ∀ m k fu o, k + m = w → m < fu → (∀ j, o = some j → j < w ∧ ak j = false) → mk_nextToAsk_L4 M K fu (eO o) (nI k) = K (eO (bF nb ak m k o))
  | 0, k, 0, o, _, hf, _ => absurd hf (by omega)
  | 0, k, fu + 1, o, hk, _, _ => by
    rw [mk_nextToAsk_L4, h7, if_neg (by rw [n_lt (by omega) (by omega)]; omega)]
    rfl
  | m + 1, k, 0, o, _, hf, _ => absurd hf (by omega)
  | m + 1, k, fu + 1, o, hk, hf, ho => by
    obtain ⟨a1, a2, a3⟩ := hn k (by omega)
    rw [mk_nextToAsk_L4, h7, if_pos (by rw [n_lt (by omega) (by omega)]; omega), chk_in (by omega) (by omega), n_cl (by omega), a3, show nI k + 1 = nI (k + 1) from n_add _ _]
    unfold bF
    by_cases q : ak k = true
    · rw [if_pos q, q, if_neg (by decide)]
      exact kq_L h7 hw hn m (k + 1) fu o (by omega) (by omega) ho
    · have q' := Bool.eq_false_iff.mpr q
      rw [if_neg q, q', if_pos (show bI false = 0 from rfl)]
      have ih := kq_L h7 hw hn (K := K) m (k + 1) fu (bN nb k o) (by omega) (by omega) (bN_ok ho (by omega) q')
      rw [← ih]
      cases o with
      | none =>
        rw [if_pos (show eO none = -1 from rfl)]
        rfl
      | some j =>
        obtain ⟨o1, o2⟩ := ho j rfl
        obtain ⟨b1, b2, b3⟩ := hn j o1
        rw [if_neg (show ¬ eO (some j) = -1 from nI_nm (by omega)), show eO (some j) = nI j from rfl, chk_in (by omega) (by omega), chk_in (by omega) (by omega), n_cl (by omega), b1, a1]
        show _ = mk_nextToAsk_L4 M K fu (eO (if nb j < nb k then some k else some j)) (nI (k + 1))
        by_cases q3 : nb j < nb k
        · rw [if_pos (by rw [n_lt (by omega) (by omega)]; exact q3), if_pos q3]
          rfl
        · rw [if_neg (by rw [n_lt (by omega) (by omega)]; exact q3), if_neg q3]
          rfl
theorem k_next1 {M : Mem} {w j : Nat} {nb : Nat → Nat} {ak : Nat → Bool} (h7 : M 89 7 = nI w) (hw : w ≤ 40) (hn : ∀ i, i < w → M 92 i = nI (nb i) ∧ nb i ≤ 999 ∧ M 93 i = bI (ak i)) (hj : bF nb ak w 0 none = some j) : mk_nextToAsk M = some (nI j) := by
  have hj2 := bF_ok (w := w) w 0 none (by omega) (fun j h => by cases h) j hj
  have := kq_L h7 hw hn (K := fun v1_0 => some ((imax v1_0 (0 : Int32)))) w 0 FU none (by omega) (by rw [FUe]; omega) (fun j h => by cases h)
  unfold mk_nextToAsk
  refine Eq.trans this ?_
  rw [hj]
  show some (imax (nI j) 0) = _
  unfold imax
  rw [if_neg (by rw [show (0 : Int32) = nI 0 from rfl, n_lt (by omega) (by omega)]; omega)]
/-- what the reference keeps of one who waits -/
def wnY (nb : Nat → Nat) (ak ab : Nat → Bool) (i : Nat) : Int32 := if ak i = true then (if ab i = true then -2 else -1) else nI (nb i)
theorem wn_lt {nb : Nat → Nat} {ak ab : Nat → Bool} {i : Nat} (h : nb i ≤ 999) : (wnY nb ak ab i < 0) = (ak i = true) := by
  unfold wnY
  by_cases q : ak i = true
  · rw [if_pos q]
    by_cases q2 : ab i = true
    · rw [if_pos q2]
      exact propext ⟨fun _ => q, fun _ => by decide⟩
    · rw [if_neg q2]
      exact propext ⟨fun _ => q, fun _ => by decide⟩
  · rw [if_neg q, show (0 : Int32) = nI 0 from rfl, n_lt (by omega) (by omega)]
    exact propext ⟨fun h => by omega, fun h => absurd h q⟩
theorem rqq_L {M : Mem} {w : Nat} {nb : Nat → Nat} {ak ab : Nat → Bool} {p1 p2 p3 p4 p5 y7 y8 y9 y10 y11 y12 y13 y14 y15 : Int32} (hw : w ≤ 40) (hn : ∀ i, i < w → M 15 i = wnY nb ak ab i ∧ nb i ≤ 999) {K : Int32 → Option (Int32 × Mem)} : ∀ m k fu o, k + m = w → m < fu → (∀ j, o = some j → j < w ∧ ak j = false) → md_fair_L230 p1 p2 p3 p4 p5 (nI w) y7 y8 y9 y10 y11 y12 y13 y14 y15 M K fu (eO o) (nI k) = K (eO (bF nb ak m k o))
  | 0, k, 0, o, _, hf, _ => absurd hf (by omega)
  | 0, k, fu + 1, o, hk, _, _ => by
    rw [md_fair_L230, if_neg (by rw [n_lt (by omega) (by omega)]; omega)]
    rfl
  | m + 1, k, 0, o, _, hf, _ => absurd hf (by omega)
  | m + 1, k, fu + 1, o, hk, hf, ho => by
    obtain ⟨a1, a2⟩ := hn k (by omega)
    rw [md_fair_L230, if_pos (by rw [n_lt (by omega) (by omega)]; omega), chk_in (by omega) (by omega), n_cl (by omega), a1, show nI k + 1 = nI (k + 1) from n_add _ _]
    unfold bF
    by_cases q : ak k = true
    · rw [if_pos q, if_pos (by rw [wn_lt a2]; exact q)]
      exact rqq_L hw hn m (k + 1) fu o (by omega) (by omega) ho
    · have q' := Bool.eq_false_iff.mpr q
      rw [if_neg q, if_neg (by rw [wn_lt a2]; exact q)]
      have ih := rqq_L hw hn (p1 := p1) (p2 := p2) (p3 := p3) (p4 := p4) (p5 := p5) (y7 := y7) (y8 := y8) (y9 := y9) (y10 := y10) (y11 := y11) (y12 := y12) (y13 := y13) (y14 := y14) (y15 := y15) (K := K) m (k + 1) fu (bN nb k o) (by omega) (by omega) (bN_ok ho (by omega) q')
      rw [← ih]
      cases o with
      | none =>
        rw [if_pos (show eO none = -1 from rfl)]
        rfl
      | some j =>
        obtain ⟨o1, o2⟩ := ho j rfl
        obtain ⟨b1, b2⟩ := hn j o1
        have e1 : wnY nb ak ab j = nI (nb j) := if_neg (by rw [o2]; decide)
        have e2 : wnY nb ak ab k = nI (nb k) := if_neg q
        rw [if_neg (show ¬ eO (some j) = -1 from nI_nm (by omega)), show eO (some j) = nI j from rfl, chk_in (by omega) (by omega), chk_in (by omega) (by omega), n_cl (by omega), b1, e1, e2]
        show _ = md_fair_L230 p1 p2 p3 p4 p5 (nI w) y7 y8 y9 y10 y11 y12 y13 y14 y15 M K fu (eO (if nb j < nb k then some k else some j)) (nI (k + 1))
        by_cases q3 : nb j < nb k
        · rw [if_pos (by rw [n_lt (by omega) (by omega)]; exact q3), if_pos q3]
          rfl
        · rw [if_neg (by rw [n_lt (by omega) (by omega)]; exact q3), if_neg q3]
          rfl
