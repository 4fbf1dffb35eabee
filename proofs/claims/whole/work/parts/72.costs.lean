/-! the reference's costs -/
def ct (p : Nat → Bool) : Nat → Nat
  | 0 => 0
  | n + 1 => ct p n + if p n then 1 else 0
theorem ct_le (p : Nat → Bool) : ∀ n, ct p n ≤ n
  | 0 => Nat.le_refl _
  | n + 1 => by
    have := ct_le p n
    unfold ct
    split <;> omega
theorem ct_cong {p q : Nat → Bool} : ∀ {n : Nat}, (∀ k, k < n → p k = q k) → ct p n = ct q n
  | 0, _ => rfl
  | n + 1, h => by
    unfold ct
    rw [ct_cong (fun k hk => h k (by omega)), h n (by omega)]
theorem ct_new {p q : Nat → Bool} {i : Nat} : ∀ {n : Nat}, (∀ k, k < n → ¬ k = i → p k = q k) → i < n → p i = false → q i = true → ct q n = ct p n + 1
  | 0, _, h, _, _ => absurd h (by omega)
  | n + 1, h, hi, h1, h2 => by
    by_cases e : i = n
    · subst e
      have : ct p i = ct q i := ct_cong fun k hk => h k (by omega) (by omega)
      unfold ct
      rw [h1, h2, if_pos rfl, if_neg (by decide), this]
    · have h3 := ct_new (p := p) (q := q) (i := i) (n := n) (fun k hk => h k (by omega)) (by omega) h1 h2
      have h4 := h n (by omega) (by omega)
      unfold ct
      rw [h3, h4]
      omega
theorem ct_pos {p : Nat → Bool} {i : Nat} : ∀ {n : Nat}, i < n → p i = true → 1 ≤ ct p n
  | 0, h, _ => absurd h (by omega)
  | n + 1, h, h1 => by
    by_cases e : i = n
    · subst e
      unfold ct
      rw [h1, if_pos rfl]
      omega
    · have := ct_pos (p := p) (i := i) (n := n) (by omega) h1
      unfold ct
      omega
def FAR : Nat := 100000000
def prim (bm : Bool) (a b : Nat) : Nat := if bm then b else a
def fin (B : Nat → Nat) : Nat := ct (fun s => decide (B s < 100000000)) 2048
def BI (c : Nat → Nat) (g : Nat) (bm : Bool) (A B : Nat → Nat) : Prop := (∀ s, sts c s → gl g s → A s = 0 ∧ B s = 0) ∧ (∀ s, sts c s → (B s = 100000000 ∧ A s = 100000000) ∨ (B s < 100000000 ∧ wk c g (B s) s (A s) ∧ prim bm (A s) (B s) + 69 ≤ 69 * fin B))
theorem BI_bd {c : Nat → Nat} {g s : Nat} {bm : Bool} {A B : Nat → Nat} (hw : WR c) (h : BI c g bm A B) (hs : sts c s) (hf : B s < 100000000) : A s < 10000000 ∧ B s < 10000000 ∧ wk c g (B s) s (A s) ∧ prim bm (A s) (B s) + 69 ≤ 69 * fin B := by
  rcases h.2 s hs with q | ⟨_, q, q2⟩
  · omega
  · have h1 := wk_bd hw q
    have h2 := ct_le (fun s => decide (B s < 100000000)) 2048
    have h3 : fin B ≤ 2048 := h2
    refine ⟨?_, ?_, q, q2⟩
    · unfold prim at q2
      cases bm
      · rw [if_neg (by decide)] at q2; omega
      · rw [if_pos rfl] at q2; omega
    · unfold prim at q2
      cases bm
      · rw [if_neg (by decide)] at q2; omega
      · rw [if_pos rfl] at q2; omega
theorem BI_cases {c : Nat → Nat} {g s : Nat} {bm : Bool} {A B : Nat → Nat} (h : BI c g bm A B) (hs : sts c s) : (B s = 100000000 ∧ A s = 100000000) ∨ B s < 100000000 := by
  rcases h.2 s hs with q | ⟨q, _⟩
  · exact Or.inl q
  · exact Or.inr q
def BM (c : Nat → Nat) (Y : Mem) (A B : Nat → Nat) : Prop := ∀ s, sts c s → Y 6 s = nI (A s) ∧ Y 7 s = nI (B s)
theorem nx_ne {c : Nat → Nat} {s k : Nat} (hv : vl c s k) : ¬ nx s k = s := by
  by_cases q : k < 1024
  · rw [nx_cross q]
    omega
  · obtain ⟨b, rfl⟩ := Nat.exists_eq_add_of_le (show 1024 ≤ k by omega)
    rw [nx_swim]
    intro e
    have h1 : s / 2 ^^^ 2 ^ b = s / 2 := by omega
    have h2 : (s / 2 ^^^ 2 ^ b).testBit b = (s / 2).testBit b := by rw [h1]
    rw [Nat.testBit_xor, Nat.testBit_two_pow, decide_eq_true rfl] at h2
    cases h3 : (s / 2).testBit b <;> rw [h3] at h2 <;> exact Bool.noConfusion h2
theorem r_less {M : Mem} {bm : Bool} {a b x y : Nat} (h1 : a < 1000000000) (h2 : b < 1000000000) (h3 : x < 1000000000) (h4 : y < 1000000000) : md_isLess (bI bm) (nI a) (nI b) (nI x) (nI y) M = some (bI (decide (key bm a b < key bm x y))) := by
  unfold md_isLess md_isLess_J9 md_isLess_J22 key
  cases bm
  · simp (disch := omega) only [n_lit, bI_0, if_true, n_lt, n_eq, if_false, Bool.false_eq_true]
    by_cases q1 : a < x
    · rw [if_pos q1, decide_eq_true (by omega)]; rfl
    · rw [if_neg q1]
      by_cases q2 : a = x
      · rw [if_pos q2]
        by_cases q3 : b < y
        · rw [if_pos q3, decide_eq_true (by omega)]; rfl
        · rw [if_neg q3, decide_eq_false (by omega)]; rfl
      · rw [if_neg q2, decide_eq_false (by omega)]; rfl
  · simp (disch := omega) only [n_lit, bI_0, if_true, n_lt, n_eq, if_false, Bool.true_eq_false]
    by_cases q1 : b < y
    · rw [if_pos q1, decide_eq_true (by omega)]; rfl
    · rw [if_neg q1]
      by_cases q2 : b = y
      · rw [if_pos q2]
        by_cases q3 : a < x
        · rw [if_pos q3, decide_eq_true (by omega)]; rfl
        · rw [if_neg q3, decide_eq_false (by omega)]; rfl
      · rw [if_neg q2, decide_eq_false (by omega)]; rfl
theorem key_fin {bm : Bool} {a b x y : Nat} (h : key bm a b ≤ key bm x y) (hx : x < 99999999) (hy : y < 99999999) (hb : (b = 100000000 ∧ a = 100000000) ∨ b < 100000000) : b < 100000000 := by
  rcases hb with ⟨h1, h2⟩ | h1
  · subst h1 h2
    unfold key at h
    cases bm
    · rw [if_neg (by decide), if_neg (by decide)] at h; omega
    · rw [if_pos rfl, if_pos rfl] at h; omega
  · exact h1
/-- the costs while the moves of s are tried: those in D are done -/
def LO (c : Nat → Nat) (g : Nat) (bm : Bool) (s : Nat) (A0 B0 : Nat → Nat) (D : Nat → Prop) (fl : Bool) (M : Mem) (A B : Nat → Nat) : Prop := BM c M A B ∧ BI c g bm A B ∧ (∀ u, ¬ u = s → A u = A0 u ∧ B u = B0 u) ∧ key bm (A s) (B s) ≤ key bm (A0 s) (B0 s) ∧ (fl = false → A s = A0 s ∧ B s = B0 s) ∧ (fl = true → key bm (A s) (B s) < key bm (A0 s) (B0 s)) ∧ ∀ k, D k → vl c s k → B0 (nx s k) < 100000000 → key bm (A s) (B s) ≤ key bm (A0 (nx s k) + tk c s k) (B0 (nx s k) + 1)
def upf (f : Nat → Nat) (s v u : Nat) : Nat := if u = s then v else f u
theorem upf_eq {f : Nat → Nat} {s v : Nat} : upf f s v s = v := if_pos rfl
theorem upf_ne {f : Nat → Nat} {s v u : Nat} (h : ¬ u = s) : upf f s v u = f u := if_neg h
theorem r_try {c : Nat → Nat} {T g s k : Nat} {bm fl : Bool} {A0 B0 A B : Nat → Nat} {D : Nat → Prop} {M : Mem} (hw : WR c) (hb : WB T c) (hT : T ≤ 520) (hs : sts c s) (hk : k < 1024 + c 1) (hE : EY M c) (h : LO c g bm s A0 B0 D fl M A B) (hg : ¬ gl g s) : ∃ f2 M' A' B', md_tries (nI s) (nI k) (bI bm) M = some (bI f2, M') ∧ LO c g bm s A0 B0 (fun j => j = k ∨ D j) (fl || f2) M' A' B' ∧ EY M' c ∧ (∀ r i, ¬ (r = 0 ∧ i = 17) → ¬ r = 6 → ¬ r = 7 → M' r i = M r i) := by
  obtain ⟨hM, hI, hU, hle, hf0, hf1, hD⟩ := id h
  have s2 := sts_2048 hw hs
  have hE2 : EY (rY M (tk c s k)) c := EY_fr hE fun i => by
    unfold rY
    split
    · rfl
    · exact wr_ne (by omega)
  have fr2 : ∀ r i, ¬ (r = 0 ∧ i = 17) → rY M (tk c s k) r i = M r i := fun r i hr => by
    unfold rY
    split
    · rfl
    · exact wr_ne hr
  have hM2 : BM c (rY M (tk c s k)) A B := fun u hu => by
    rw [fr2 _ _ (by omega), fr2 _ _ (by omega)]
    exact hM u hu
  have no : ∀ (hn : vl c s k → B0 (nx s k) < 100000000 → key bm (A s) (B s) ≤ key bm (A0 (nx s k) + tk c s k) (B0 (nx s k) + 1)), md_tries (nI s) (nI k) (bI bm) M = some (nI 0, rY M (tk c s k)) → ∃ f2 M' A' B', md_tries (nI s) (nI k) (bI bm) M = some (bI f2, M') ∧ LO c g bm s A0 B0 (fun j => j = k ∨ D j) (fl || f2) M' A' B' ∧ EY M' c ∧ (∀ r i, ¬ (r = 0 ∧ i = 17) → ¬ r = 6 → ¬ r = 7 → M' r i = M r i) := fun hn he => ⟨false, _, A, B, he, ⟨hM2, hI, hU, hle, by rw [Bool.or_false]; exact hf0, by rw [Bool.or_false]; exact hf1, fun j hj hv hB => by
    rcases hj with rfl | hj
    · exact hn hv hB
    · exact hD j hj hv hB⟩, hE2, fun r i h1 _ _ => fr2 r i h1⟩
  by_cases q0 : tk c s k = 0
  · refine no (fun hv => absurd q0 hv.2) ?_
    unfold md_tries
    rw [r_behind hE hw hb hT hs hk]
    unfold bnd2 nxI
    dsimp only
    rw [if_pos q0, if_pos rfl]
    rfl
  · have hv : vl c s k := ⟨hk, q0⟩
    have hu := nx_lt hw hs hv
    have u2 := sts_2048 hw hu
    have hne := nx_ne hv
    obtain ⟨eA, eB⟩ := hU _ hne
    have ht := tk_le hw s k
    have m1 := hM2 s hs
    have m2 := hM2 (nx s k) hu
    have hrY : rY M (tk c s k) 0 17 = nI (tk c s k) := by
      unfold rY
      rw [if_neg q0, wr_eq]
    have c1 := BI_cases hI hu
    have c2 := BI_cases hI hs
    by_cases q1 : B (nx s k) = 100000000
    · refine no (fun _ hB => by omega) ?_
      unfold md_tries
      rw [r_behind hE hw hb hT hs hk]
      unfold bnd2 nxI
      dsimp only
      rw [if_neg q0, if_neg (nI_nm (by omega)), chk_in (by omega) (by omega), n_cl (by omega), if_pos (show rY M (tk c s k) 7 (nx s k) = 100000000 by rw [m2.2, q1]; rfl)]
      rfl
    · have bu := BI_bd hw hI hu (by omega)
      have bs : A s ≤ 100000000 ∧ B s ≤ 100000000 := by
        rcases c2 with c2 | c2
        · omega
        · have := BI_bd hw hI hs c2
          omega
      have hgo : md_tries (nI s) (nI k) (bI bm) M = if bI (decide (key bm (A (nx s k) + tk c s k) (B (nx s k) + 1) < key bm (A s) (B s))) = nI 0 then some (nI 0, rY M (tk c s k)) else some (nI 1, wr (wr (rY M (tk c s k)) 6 s (nI (A (nx s k) + tk c s k))) 7 s (nI (B (nx s k) + 1))) := by
        unfold md_tries
        rw [r_behind hE hw hb hT hs hk]
        unfold bnd2 nxI
        dsimp only
        rw [if_neg q0, if_neg (nI_nm (by omega))]
        simp (disch := omega) only [n_lit, chk_in, n_cl, m2.1, m2.2, m1.1, m1.2, hrY, n_add, r_less, bind_s, lt1_ap, n_eq, if_neg, q1, if_false]
        rw [wr_ne (M := rY M (tk c s k)) (r := 6) (r' := 7) (by omega), m2.2, n_add]
      by_cases q2 : key bm (A (nx s k) + tk c s k) (B (nx s k) + 1) < key bm (A s) (B s)
      · have hB' : ∀ u, ¬ u = s → upf B s (B (nx s k) + 1) u = B u := fun u hu => upf_ne hu
        have hB0 : upf B s (B (nx s k) + 1) s = B (nx s k) + 1 := upf_eq
        have hA0 : upf A s (A (nx s k) + tk c s k) s = A (nx s k) + tk c s k := upf_eq
        have hfin : fin B ≤ fin (upf B s (B (nx s k) + 1)) := by
          unfold fin
          rcases c2 with c2 | c2
          · have := ct_new (p := fun s => decide (B s < 100000000)) (q := fun u => decide (upf B s (B (nx s k) + 1) u < 100000000)) (i := s) (n := 2048) (fun u _ hu => by rw [hB' u hu]) s2 (decide_eq_false (by omega)) (by rw [hB0]; exact decide_eq_true (by omega))
            omega
          · exact Nat.le_of_eq (ct_cong fun u _ => by
              by_cases e : u = s
              · rw [e, hB0]
                exact decide_eq_decide.mpr (by omega)
              · rw [hB' u e])
        have hnew : prim bm (A (nx s k) + tk c s k) (B (nx s k) + 1) + 69 ≤ 69 * fin (upf B s (B (nx s k) + 1)) := by
          rcases c2 with c2 | c2
          · have e1 := ct_new (p := fun s => decide (B s < 100000000)) (q := fun u => decide (upf B s (B (nx s k) + 1) u < 100000000)) (i := s) (n := 2048) (fun u _ hu => by rw [hB' u hu]) s2 (decide_eq_false (by omega)) (by rw [hB0]; exact decide_eq_true (by omega))
            have e2 : fin (upf B s (B (nx s k) + 1)) = fin B + 1 := e1
            have e3 := bu.2.2.2
            unfold prim at e3 ⊢
            cases bm
            · rw [if_neg (by decide)] at e3 ⊢; omega
            · rw [if_pos rfl] at e3 ⊢; omega
          · have e3 := (BI_bd hw hI hs c2)
            have e4 := e3.2.2.2
            unfold key at q2
            unfold prim at e4 ⊢
            cases bm
            · rw [if_neg (by decide)] at e4 ⊢
              rw [if_neg (by decide), if_neg (by decide)] at q2
              omega
            · rw [if_pos rfl] at e4 ⊢
              rw [if_pos rfl, if_pos rfl] at q2
              omega
        refine ⟨true, _, upf A s (A (nx s k) + tk c s k), upf B s (B (nx s k) + 1), by rw [hgo, decide_eq_true q2, if_neg (by decide)]; rfl, ⟨fun u hu => ?_, ⟨fun u hu hgu => ?_, fun u hu => ?_⟩, fun u hu => ?_, ?_, fun e => ?_, fun _ => ?_, fun j hj hvj hBj => ?_⟩, EY_fr hE2 fun i => by rw [wr_ne (by omega), wr_ne (by omega)], fun r i h1 h2 h3 => by rw [wr_ne (by omega), wr_ne (by omega), fr2 r i h1]⟩
        · by_cases e : u = s
          · subst e
            rw [wr_ne (by omega), wr_eq, wr_eq, hA0, hB0]
            exact ⟨rfl, rfl⟩
          · rw [wr_ne (by omega), wr_ne (by omega), wr_ne (by omega), wr_ne (by omega), upf_ne e, upf_ne e]
            exact hM2 u hu
        · by_cases e : u = s
          · exact absurd (e ▸ hgu) hg
          · rw [upf_ne e, upf_ne e]
            exact hI.1 u hu hgu
        · by_cases e : u = s
          · subst e
            rw [hA0, hB0]
            refine Or.inr ⟨by omega, ⟨k, A (nx u k), hv, bu.2.2.1, by omega⟩, hnew⟩
          · rw [upf_ne e, upf_ne e]
            rcases hI.2 u hu with q | ⟨q, q3, q4⟩
            · exact Or.inl q
            · exact Or.inr ⟨q, q3, by omega⟩
        · rw [upf_ne hu, upf_ne hu]
          exact hU u hu
        · rw [hA0, hB0]
          omega
        · rw [Bool.or_true] at e
          exact Bool.noConfusion e
        · rw [hA0, hB0]
          omega
        · rw [hA0, hB0]
          rcases hj with rfl | hj
          · rw [eA, eB]
            exact Nat.le_refl _
          · have := hD j hj hvj hBj
            omega
      · refine no (fun _ _ => by rw [← eA, ← eB]; omega) ?_
        rw [hgo, decide_eq_false q2, if_pos (show bI false = nI 0 from rfl)]
theorem LO_D {c : Nat → Nat} {g s : Nat} {bm fl : Bool} {A0 B0 A B : Nat → Nat} {D D2 : Nat → Prop} {M : Mem} (h : LO c g bm s A0 B0 D fl M A B) (hD : ∀ k, D2 k → vl c s k → D k) : LO c g bm s A0 B0 D2 fl M A B := by
  obtain ⟨h1, h2, h3, h4, h5, h6, h7⟩ := h
  exact ⟨h1, h2, h3, h4, h5, h6, fun k hk hv hB => h7 k (hD k hk hv) hv hB⟩
/-- the next smaller subset -/
theorem prv_sub : ∀ m h x, h < 2 ^ m → sd x h = 0 → 0 < x → sd ((x - 1) &&& h) h = 0 ∧ ((x - 1) &&& h) < x ∧ ∀ k, sd k h = 0 → k < x → k ≤ ((x - 1) &&& h)
  | 0, h, x, hh, hs, hx => by
    have := sd_le hs
    omega
  | m + 1, h, x, hh, hs, hx => by
    have e3 : 2 ^ (m + 1) = 2 * 2 ^ m := by rw [Nat.pow_succ]; omega
    obtain ⟨s1, s2⟩ := sd_half.mp hs
    have d1 := and_half (x - 1) h
    have d2 := and_odd (x - 1) h
    have a1 : (x - 1) &&& h ≤ x - 1 := Nat.and_le_left
    refine ⟨sd_0.mpr fun i hi => ?_, by omega, fun k hk hkx => ?_⟩
    · rw [Nat.testBit_and, Bool.and_eq_true] at hi
      exact hi.2
    · obtain ⟨t1, t2⟩ := sd_half.mp hk
      by_cases xo : x % 2 = 1
      · have d3 : (x - 1) / 2 = x / 2 := by omega
        have e : x / 2 &&& h / 2 = x / 2 := Nat.eq_of_testBit_eq fun i => by
          rw [Nat.testBit_and]
          cases q : (x / 2).testBit i
          · rfl
          · rw [sd_0.mp s1 i q]; rfl
        rw [d3, e] at d1
        omega
      · have d3 : (x - 1) / 2 = x / 2 - 1 := by omega
        rw [d3] at d1
        have := (prv_sub m (h / 2) (x / 2) (by omega) s1 (by omega)).2.2 (k / 2) t1 (by omega)
        omega
theorem rl_L {c : Nat → Nat} {T g s : Nat} {bm : Bool} {A0 B0 : Nat → Nat} (hw : WR c) (hb : WB T c) (hT : T ≤ 520) (hs : sts c s) (hg : ¬ gl g s) {K : Int32 → Mem → Option (Int32 × Mem)} : ∀ x fu (M : Mem) A B fl, sd x (here c (s / 2) (s % 2)) = 0 → x + 2 ≤ fu → EY M c → LO c g bm s A0 B0 (fun k => x < k ∧ k < 1024) fl M A B → ∃ f2 M' A' B', md_lowers_L34 (nI s) (bI bm) (nI (here c (s / 2) (s % 2))) K fu (bI fl) (nI x) (nI 0) M = K (bI f2) M' ∧ LO c g bm s A0 B0 (fun k => k < 1024) f2 M' A' B' ∧ EY M' c ∧ (∀ r i, ¬ (r = 0 ∧ i = 17) → ¬ r = 6 → ¬ r = 7 → M' r i = M r i) := by
  have hh := here_lt (bk := s % 2) hw hs
  have hn := WR_n hw
  have h10 := pw_10 hn
  intro x
  induction x using Nat.strongRecOn with
  | ind x ih =>
    intro fu M A B fl hx hf hE hL
    obtain ⟨fu, rfl⟩ : ∃ f, fu = f + 1 := ⟨fu - 1, by omega⟩
    have hxl := sd_le hx
    obtain ⟨f2, M1, A1, B1, e1, e2, e3, e4⟩ := r_try hw hb hT hs (show x < 1024 + c 1 by omega) hE hL hg
    have stp : md_lowers_L34 (nI s) (bI bm) (nI (here c (s / 2) (s % 2))) K (fu + 1) (bI fl) (nI x) (nI 0) M = md_lowers_J60 (nI s) (bI bm) (fun a5 a6 a7 aM => md_lowers_L34 (nI s) (bI bm) (nI (here c (s / 2) (s % 2))) K fu a5 a6 a7 aM) K (nI (here c (s / 2) (s % 2))) (nI x) (bI (fl || f2)) M1 := by
      rw [md_lowers_L34, if_pos (show nI 0 = 0 from rfl), e1]
      unfold bnd2 md_lowers_J55
      dsimp only
      cases f2
      · cases fl
        · rfl
        · rfl
      · cases fl
        · rfl
        · rfl
    rw [stp]
    unfold md_lowers_J60
    dsimp only
    by_cases q : x = 0
    · subst q
      obtain ⟨fu, rfl⟩ : ∃ f, fu = f + 1 := ⟨fu - 1, by omega⟩
      refine ⟨fl || f2, M1, A1, B1, ?_, LO_D e2 (fun k hk _ => ?_), e3, e4⟩
      · rw [if_pos (show nI 0 = 0 from rfl), md_lowers_L34, if_neg (by decide)]
      · by_cases e : k = 0
        · exact Or.inl e
        · exact Or.inr ⟨by omega, hk⟩
    · obtain ⟨p1, p2, p3⟩ := prv_sub 10 _ x (show here c (s / 2) (s % 2) < 2 ^ 10 by omega) hx (by omega)
      obtain ⟨f3, M', A', B', i1, i2, i3, i4⟩ := ih _ p2 fu M1 A1 B1 (fl || f2) p1 (by omega) e3 (LO_D e2 fun k hk hv => by
        by_cases e : k = x
        · exact Or.inl e
        · refine Or.inr ⟨?_, hk.2⟩
          refine Classical.byContradiction fun q2 => ?_
          have := p3 k (vl_sub hv hk.2) (by omega)
          omega)
      refine ⟨f3, M', A', B', ?_, i2, i3, fun r i a b d => by rw [i4 r i a b d, e4 r i a b d]⟩
      rw [if_neg (show ¬ nI x = 0 by rw [n_lit, n_eq (by omega) (by omega)]; exact q), ← i1]
      simp (disch := omega) only [n_lit, n_sub, n_and]
theorem rs_L {c : Nat → Nat} {T g s : Nat} {bm : Bool} {A0 B0 : Nat → Nat} (hw : WR c) (hb : WB T c) (hT : T ≤ 520) (hs : sts c s) (hg : ¬ gl g s) {K : Int32 → Mem → Option (Int32 × Mem)} : ∀ m j fu (M : Mem) A B fl, j + m = c 1 → m < fu → EY M c → LO c g bm s A0 B0 (fun k => k < 1024 + j) fl M A B → ∃ f2 M' A' B', md_lowers_L89 (nI s) (bI bm) K fu (bI fl) (nI j) M = K (bI f2) M' ∧ LO c g bm s A0 B0 (fun k => k < 1024 + c 1) f2 M' A' B' ∧ EY M' c ∧ (∀ r i, ¬ (r = 0 ∧ i = 17) → ¬ r = 6 → ¬ r = 7 → M' r i = M r i)
  | 0, j, 0, _, _, _, _, _, hf => absurd hf (by omega)
  | 0, j, fu + 1, M, A, B, fl, hk, _ => fun hE hL => by
    have hn := WR_n hw
    refine ⟨fl, M, A, B, ?_, (show j = c 1 by omega) ▸ hL, hE, fun _ _ _ _ _ => rfl⟩
    rw [md_lowers_L89, EY_n hE (i := 1) (by omega) (by omega)]
    simp (disch := omega) only [n_lit, n_lt, if_neg]
  | m + 1, j, 0, _, _, _, _, _, hf => absurd hf (by omega)
  | m + 1, j, fu + 1, M, A, B, fl, hk, hf => fun hE hL => by
    have hn := WR_n hw
    obtain ⟨f2, M1, A1, B1, e1, e2, e3, e4⟩ := r_try hw hb hT hs (show 1024 + j < 1024 + c 1 by omega) hE hL hg
    obtain ⟨f3, M', A', B', i1, i2, i3, i4⟩ := rs_L hw hb hT hs hg (K := K) m (j + 1) fu M1 A1 B1 (fl || f2) (by omega) (by omega) e3 (LO_D e2 fun k hk _ => by
      by_cases e : k = 1024 + j
      · exact Or.inl e
      · exact Or.inr (by omega))
    refine ⟨f3, M', A', B', ?_, i2, i3, fun r i a b d => by rw [i4 r i a b d, e4 r i a b d]⟩
    rw [md_lowers_L89, EY_n hE (i := 1) (by omega) (by omega), ← i1]
    simp (disch := omega) only [n_lit, n_lt, if_pos, n_add]
    rw [e1]
    unfold bnd2
    dsimp only
    cases f2
    · cases fl
      · rfl
      · rfl
    · cases fl
      · rfl
      · rfl
theorem r_lowers {c : Nat → Nat} {T g s : Nat} {bm : Bool} {A0 B0 : Nat → Nat} {M : Mem} (hw : WR c) (hb : WB T c) (hT : T ≤ 520) (hs : sts c s) (hg : ¬ gl g s) (hE : EY M c) (hM : BM c M A0 B0) (hI : BI c g bm A0 B0) : ∃ f2 M' A' B', md_lowers (nI s) (bI bm) M = some (bI f2, M') ∧ LO c g bm s A0 B0 (fun k => k < 1024 + c 1) f2 M' A' B' ∧ EY M' c ∧ (∀ r i, ¬ (r = 0 ∧ i = 17) → ¬ r = 6 → ¬ r = 7 → M' r i = M r i) := by
  have hh := here_lt (bk := s % 2) hw hs
  have hn := WR_n hw
  have h10 := pw_10 hn
  have s2 := sts_2048 hw hs
  obtain ⟨f1, M1, A1, B1, e1, e2, e3, e4⟩ := rl_L hw hb hT hs hg (bm := bm) (A0 := A0) (B0 := B0) (K := fun v5_2 M4 => md_lowers_L89 (nI s) (bI bm) (fun v5_6 M8 => chk (isB v5_6) (some (v5_6, M8))) FU (v5_2) (nI 0) M4) (here c (s / 2) (s % 2)) FU M A0 B0 false (sd_self _) (by rw [FUe]; omega) hE ⟨hM, hI, fun _ _ => ⟨rfl, rfl⟩, Nat.le_refl _, fun _ => ⟨rfl, rfl⟩, fun e => Bool.noConfusion e, fun k hk hv _ => by
    have := sd_le (vl_sub hv hk.2)
    omega⟩
  obtain ⟨f2, M2, A2, B2, g1, g2, g3, g4⟩ := rs_L hw hb hT hs hg (K := fun v5_6 M8 => chk (isB v5_6) (some (v5_6, M8))) (c 1) 0 FU M1 A1 B1 f1 (by omega) (by rw [FUe]; omega) e3 e2
  refine ⟨f2, M2, A2, B2, ?_, g2, g3, fun r i a b d => by rw [g4 r i a b d, e4 r i a b d]⟩
  have key1 : md_lowers_J22 (nI s) (bI bm) (nI (here c (s / 2) (s % 2))) M = some (bI f2, M2) := by
    unfold md_lowers_J22
    refine Eq.trans e1 (Eq.trans g1 ?_)
    rw [chk_bI]
  unfold md_lowers
  rw [r_all hE hw]
  simp (disch := omega) only [n_lit, n_rem, n_div, bind_s, n_sd, n_eq]
  unfold here at key1
  by_cases q : s % 2 = 0
  · rw [if_pos q] at key1
    rw [if_pos q]
    exact key1
  · rw [if_neg q] at key1
    rw [if_neg q]
    exact key1
