/-! the class's search -/
def bstI (bo : Option Nat) : Int32 := match bo with
  | none => -1
  | some b => nI b
def SM (M : Mem) (g s0 : Nat) (bm : Bool) (ns : Nat) (z : Nat → Nat) (bo : Option Nat) : Prop := M 82 6 = nI ns ∧ (∀ i, i < ns → M 85 i = nI (z i)) ∧ M 82 7 = nI s0 ∧ M 82 8 = nI g ∧ M 82 9 = bI bm ∧ M 82 10 = bstI bo
/-- what holds of the settled, all through -/
def SB (c : Nat → Nat) (g : Nat) (bm : Bool) (s0 : Nat) (G : Nat → Nat) (ns : Nat) (z : Nat → Nat) (bo : Option Nat) : Prop := (∀ s, G s ≤ 2147483647) ∧ (∀ s, G s < 2147483647 → sts c s) ∧ (∀ i, i < ns → G (z i) < 2147483647) ∧ (∀ i j, i < j → j < ns → G (z i) ≤ G (z j)) ∧ (∀ i, i < ns → ¬ gl g (z i) → ∀ k, vl c (z i) k → G (nx (z i) k) ≤ G (z i) + kc bm (tk c (z i) k) 1) ∧ (∀ s, G s < 2147483647 → G s ≤ 282625 * ns) ∧ (∀ s, G s < 2147483647 → ∀ m a, wk c g m s a → ∃ m' a', wk c g m' s0 a' ∧ kc bm a' m' = G s + kc bm a m) ∧ (∀ P : Nat → Prop, P s0 → (∀ s k, sts c s → P s → vl c s k → P (nx s k)) → ∀ s, G s < 2147483647 → P s) ∧ G s0 = 0 ∧ (bo = none → ∀ i, i < ns → ¬ gl g (z i)) ∧ (∀ b, bo = some b → (∃ i, i < ns ∧ gl g (z i)) ∧ (∀ i, i < ns → G (z i) ≤ b) ∧ (∀ i, i < ns → gl g (z i) → G (z i) = b))
/-- .. and of the open -/
def SO (G : Nat → Nat) (no : Nat) (o : Nat → Nat) (ns : Nat) (z : Nat → Nat) : Prop := no + ns = fnG G ∧ (∀ s, G s < 2147483647 ↔ ((∃ i, i < no ∧ o i = s) ∨ (∃ i, i < ns ∧ z i = s))) ∧ (∀ i j, i < ns → j < no → G (z i) ≤ G (o j))
theorem upz {z : Nat → Nat} {ns x i : Nat} (h : i < ns) : upf z ns x i = z i := upf_ne (by omega)
/-- x is settled -/
theorem st_goal {c : Nat → Nat} {g s0 ns no x : Nat} {bm : Bool} {G o o1 z : Nat → Nat} {bo : Option Nat} (h : SB c g bm s0 G ns z bo) (hO : SO G no o ns z) (h0 : 0 < no) (hx : ∀ j, j < no → G x ≤ G (o j)) (ho : ∀ s, (∃ i, i < no ∧ o i = s) ↔ (s = x ∨ ∃ i, i < no - 1 ∧ o1 i = s)) (hb : ∀ b, bo = some b → G x ≤ b) (hg : gl g x) : SB c g bm s0 G (ns + 1) (upf z ns x) (some (G x)) ∧ SO G (no - 1) o1 (ns + 1) (upf z ns x) := by
  obtain ⟨a2, a3, a4, a5, a7, a8, a9, a10, a11, b0, b1⟩ := h
  obtain ⟨o1', o2, o3⟩ := hO
  obtain ⟨jx, hj1, hj2⟩ := (ho x).mpr (Or.inl rfl)
  have hfx : G x < 2147483647 := (o2 x).mpr (Or.inl ⟨jx, hj1, hj2⟩)
  have hzx : ∀ i, i < ns → G (z i) ≤ G x := fun i hi => by
    have := o3 i jx hi hj1
    rw [hj2] at this
    exact this
  refine ⟨⟨a2, a3, fun i hi => ?_, fun i j hij hj => ?_, fun i hi hng k hv => ?_, fun s hs => ?_, a9, a10, a11, (fun e => nomatch e), fun b e => ?_⟩, by omega, fun s => ?_, fun i j hi hj => ?_⟩
  · by_cases e : i = ns
    · rw [e, upf_eq]; exact hfx
    · rw [upz (by omega)]; exact a4 i (by omega)
  · by_cases e : j = ns
    · rw [e, upf_eq, upz (by omega)]; exact hzx i (by omega)
    · rw [upz (show i < ns by omega), upz (show j < ns by omega)]; exact a5 i j hij (by omega)
  · by_cases e : i = ns
    · rw [e, upf_eq] at hng
      exact absurd hg hng
    · rw [upz (show i < ns by omega)] at hng hv ⊢
      exact a7 i (by omega) hng k hv
  · have := a8 s hs
    omega
  · have e : G x = b := by injection e
    subst e
    refine ⟨⟨ns, by omega, by rw [upf_eq]; exact hg⟩, fun i hi => ?_, fun i hi hgi => ?_⟩
    · by_cases e : i = ns
      · rw [e, upf_eq]; exact Nat.le_refl _
      · rw [upz (by omega)]; exact hzx i (by omega)
    · by_cases e : i = ns
      · rw [e, upf_eq]
      · rw [upz (show i < ns by omega)] at hgi ⊢
        cases hbo : bo with
        | none => exact absurd hgi (b0 hbo i (by omega))
        | some b =>
          have h1 := (b1 b hbo).2.2 i (by omega) hgi
          have h2 := hb b hbo
          have h3 := hzx i (by omega)
          omega
  · rw [o2 s, ho s]
    constructor
    · rintro ((rfl | h) | ⟨i, hi, h⟩)
      · exact Or.inr ⟨ns, by omega, upf_eq⟩
      · exact Or.inl h
      · exact Or.inr ⟨i, by omega, by rw [upz hi]; exact h⟩
    · rintro (h | ⟨i, hi, h⟩)
      · exact Or.inl (Or.inr h)
      · by_cases e : i = ns
        · rw [e, upf_eq] at h
          exact Or.inl (Or.inl h.symm)
        · rw [upz (by omega)] at h
          exact Or.inr ⟨i, by omega, h⟩
  · have hjo : ∃ q, q < no ∧ o q = o1 j := (ho (o1 j)).mpr (Or.inr ⟨j, hj, rfl⟩)
    obtain ⟨q, hq, he⟩ := hjo
    by_cases e : i = ns
    · rw [e, upf_eq, ← he]; exact hx q hq
    · rw [upz (by omega), ← he]; exact o3 i q (by omega) hq
theorem st_go {c : Nat → Nat} {g s0 ns no no2 x : Nat} {bm : Bool} {G o o1 z G2 o2 : Nat → Nat} {bo : Option Nat} (hw : WR c) (h : SB c g bm s0 G ns z bo) (hO : SO G no o ns z) (h0 : 0 < no) (hx : ∀ j, j < no → G x ≤ G (o j)) (ho : ∀ s, (∃ i, i < no ∧ o i = s) ↔ (s = x ∨ ∃ i, i < no - 1 ∧ o1 i = s)) (hb : ∀ b, bo = some b → G x ≤ b) (hg : ¬ gl g x) (hr : RLX c bm x G (no - 1) o1 (ns + 1) G2 no2 o2) (hk : ∀ k, vl c x k → G2 (nx x k) ≤ G x + kc bm (tk c x k) 1) : SB c g bm s0 G2 (ns + 1) (upf z ns x) bo ∧ SO G2 no2 o2 (ns + 1) (upf z ns x) := by
  obtain ⟨a2, a3, a4, a5, a7, a8, a9, a10, a11, b0, b1⟩ := h
  obtain ⟨o1', q2, q3⟩ := hO
  obtain ⟨jx, hj1, hj2⟩ := (ho x).mpr (Or.inl rfl)
  have hfx : G x < 2147483647 := (q2 x).mpr (Or.inl ⟨jx, hj1, hj2⟩)
  have hsx := a3 x hfx
  have hzx : ∀ i, i < ns → G (z i) ≤ G x := fun i hi => by
    have := q3 i jx hi hj1
    rw [hj2] at this
    exact this
  have gx : G2 x = G x := RLX_x hr
  have gle := RLX_le hr
  have gz : ∀ i, i < ns → G2 (z i) = G (z i) := fun i hi => by
    rcases hr.1 (z i) with q | ⟨k, hv, e, e2, e3⟩
    · exact q
    · have h1 := hzx i hi
      have h2 := kc1_le (bm := bm) (tk_le hw x k)
      omega
  have gzu : ∀ i, i < ns + 1 → G2 (upf z ns x i) = G (upf z ns x i) := fun i hi => by
    by_cases e : i = ns
    · rw [e, upf_eq]; exact gx
    · rw [upz (by omega)]; exact gz i (by omega)
  have hs0 : G2 s0 = 0 := by
    have := gle s0
    omega
  refine ⟨⟨fun s => Nat.le_trans (gle s) (a2 s), fun s hs => ?_, fun i hi => ?_, fun i j hij hj => ?_, fun i hi hng k hv => ?_, fun s hs => ?_, fun s hs m a hwk => ?_, fun P p0 ps s hs => ?_, hs0, fun e i hi => ?_, fun b e => ?_⟩, hr.2.1, fun s => ?_, fun i j hi hj => ?_⟩
  · rcases hr.1 s with q | ⟨k, hv, e, _, _⟩
    · rw [q] at hs; exact a3 s hs
    · rw [e]; exact nx_lt hw hsx hv
  · rw [gzu i hi]
    by_cases e : i = ns
    · rw [e, upf_eq]; exact hfx
    · rw [upz (by omega)]; exact a4 i (by omega)
  · rw [gzu i (by omega), gzu j hj]
    by_cases e : j = ns
    · rw [e, upf_eq, upz (by omega)]; exact hzx i (by omega)
    · rw [upz (show i < ns by omega), upz (show j < ns by omega)]; exact a5 i j hij (by omega)
  · rw [gzu i hi]
    by_cases e : i = ns
    · rw [e, upf_eq] at hv ⊢
      exact hk k hv
    · rw [upz (show i < ns by omega)] at hng hv ⊢
      have := a7 i (by omega) hng k hv
      have := gle (nx (z i) k)
      omega
  · rcases hr.1 s with q | ⟨k, hv, e, e2, _⟩
    · rw [q] at hs ⊢
      have := a8 s hs
      omega
    · have h1 := a8 x hfx
      have h2 := kc1_le (bm := bm) (tk_le hw x k)
      omega
  · rcases hr.1 s with q | ⟨k, hv, e, e2, _⟩
    · rw [q] at hs ⊢
      exact a9 s hs m a hwk
    · subst e
      obtain ⟨m', a', w1, w2⟩ := a9 x hfx (m + 1) (tk c x k + a) ⟨k, a, hv, hwk, rfl⟩
      refine ⟨m', a', w1, ?_⟩
      have := kc_add bm a m (tk c x k) 1
      rw [Nat.add_comm a (tk c x k)] at this
      omega
  · rcases hr.1 s with q | ⟨k, hv, e, e2, _⟩
    · rw [q] at hs
      exact a10 P p0 ps s hs
    · rw [e]
      exact ps x k hsx (a10 P p0 ps x hfx) hv
  · by_cases e2 : i = ns
    · rw [e2, upf_eq]; exact hg
    · rw [upz (by omega)]; exact b0 e i (by omega)
  · obtain ⟨⟨i, hi, hgi⟩, c2, c3⟩ := b1 b e
    refine ⟨⟨i, by omega, by rw [upz hi]; exact hgi⟩, fun i hi => ?_, fun i hi hgi => ?_⟩
    · rw [gzu i hi]
      by_cases e2 : i = ns
      · rw [e2, upf_eq]; exact hb b e
      · rw [upz (by omega)]; exact c2 i (by omega)
    · rw [gzu i hi]
      by_cases e2 : i = ns
      · rw [e2, upf_eq] at hgi
        exact absurd hgi hg
      · rw [upz (show i < ns by omega)] at hgi ⊢
        exact c3 i (by omega) hgi
  · have l1 := gle s
    have l2 := a2 s
    rw [hr.2.2 s]
    constructor
    · intro hs
      by_cases q : G s < 2147483647
      · rcases (q2 s).mp q with h | ⟨i, hi, h⟩
        · rcases (ho s).mp h with rfl | h
          · exact Or.inr ⟨ns, by omega, upf_eq⟩
          · exact Or.inl (Or.inl h)
        · exact Or.inr ⟨i, by omega, by rw [upz hi]; exact h⟩
      · exact Or.inl (Or.inr ⟨by omega, hs⟩)
    · rintro ((h | ⟨_, h⟩) | ⟨i, hi, h⟩)
      · have := (q2 s).mpr (Or.inl ((ho s).mpr (Or.inr h)))
        omega
      · exact h
      · by_cases e : i = ns
        · rw [e, upf_eq] at h
          rw [← h]
          omega
        · rw [upz (by omega)] at h
          have := (q2 s).mpr (Or.inr ⟨i, by omega, h⟩)
          omega
  · have hG : G x ≤ G2 (o2 j) := by
      rcases hr.1 (o2 j) with q | ⟨k, hv, e, e2, _⟩
      · rw [q]
        rcases (hr.2.2 (o2 j)).mp ⟨j, hj, rfl⟩ with h | ⟨h, h2⟩
        · obtain ⟨q', hq, he⟩ := (ho (o2 j)).mpr (Or.inr h)
          rw [← he]
          exact hx q' hq
        · omega
      · omega
    rw [gzu i hi]
    by_cases e : i = ns
    · rw [e, upf_eq]; exact hG
    · rw [upz (by omega)]
      have := hzx i (by omega)
      omega
/-- all that is near enough is settled -/
def SD (c : Nat → Nat) (g : Nat) (bm : Bool) (s0 : Nat) (M : Mem) (G : Nat → Nat) (ns : Nat) (z : Nat → Nat) (bo : Option Nat) : Prop := (∀ s, s < 2048 → M 83 s = nI (G s)) ∧ SM M g s0 bm ns z bo ∧ MV M c ∧ SB c g bm s0 G ns z bo ∧ ns ≤ 2048 ∧ ∀ s, G s < 2147483647 → (∀ b, bo = some b → G s ≤ b) → ∃ i, i < ns ∧ z i = s
theorem k_goal {M : Mem} {g s : Nat} (h : M 82 8 = nI g) (hg : g < 2048) (hs : s < 4096) : pl_isGoal (nI s) M = some (bI (decide (gl g s))) := by
  have h1 := and_lt (n := 11) (s / 2) (show g < 2 ^ 11 by omega)
  unfold pl_isGoal gl
  rw [h]
  simp (disch := omega) only [n_lit, n_and, m31, n_shr, n_eq, Nat.pow_one]
  by_cases q : s / 2 &&& g = g
  · rw [if_pos q, decide_eq_true q]; rfl
  · rw [if_neg q, decide_eq_false q]; rfl
theorem MV_fr {M M' : Mem} {c : Nat → Nat} (h : MV M c) (e : ∀ r i, r < 82 → M' r i = M r i) : MV M' c := MV_cong h fun r i h1 _ => e r i (by omega)
theorem ks_srch {c : Nat → Nat} {g s0 : Nat} {bm : Bool} {p1 p2 p3 : Int32} (hw : WR c) (hg : g < 2048) {K : Mem → Option (Int32 × Mem)} : ∀ d ns fu (M : Mem) G no o z bo, ns + d = 2048 → d < fu → DM M G no o → SM M g s0 bm ns z bo → SB c g bm s0 G ns z bo → SO G no o ns z → MV M c → ∃ M' G' ns' z' bo', pl_search_L51 p1 p2 p3 K fu (nI ns) M = K M' ∧ SD c g bm s0 M' G' ns' z' bo' ∧ (∀ r i, r < 80 → ¬ (r = 75 ∧ i = 10) → M' r i = M r i) := by
  intro d
  induction d with
  | zero =>
    intro ns fu M G no o z bo hd hf hD hS hB hO hV
    obtain ⟨fu, rfl⟩ : ∃ f, fu = f + 1 := ⟨fu - 1, by omega⟩
    have h1 := fnG_le G
    have h2 := hO.1
    refine ⟨M, G, ns, z, bo, ?_, ⟨hD.2.1, hS, hV, hB, by omega, fun s hs _ => ?_⟩, fun _ _ _ _ => rfl⟩
    · rw [pl_search_L51]
      simp (disch := omega) only [n_lit, n_lt, if_neg]
    · rcases (hO.2.1 s).mp hs with ⟨i, hi, _⟩ | h
      · omega
      · exact h
  | succ d ih =>
    intro ns fu M G no o z bo hd hf hD hS hB hO hV
    obtain ⟨fu, rfl⟩ : ∃ f, fu = f + 1 := ⟨fu - 1, by omega⟩
    have h1 := fnG_le G
    have h2 := hO.1
    by_cases h0 : 0 < no
    · have ho2 : ∀ i, i < no → o i < 2048 := fun i hi => sts_2048 hw (hB.2.1 _ ((hO.2.1 _).mpr (Or.inl ⟨i, hi, rfl⟩)))
      obtain ⟨x, M1, o1, e1, e2, e3, e4, e5⟩ := k_take hD ho2 hB.1 (by omega) h0
      have hfx : G x < 2147483647 := (hO.2.1 x).mpr (Or.inl ((e4 x).mpr (Or.inl rfl)))
      have hsx := hB.2.1 x hfx
      have hx2 := sts_2048 hw hsx
      have hxb : G x ≤ 282625 * ns := hB.2.2.2.2.2.1 x hfx
      have hS1 : SM M1 g s0 bm ns z bo := by
        obtain ⟨s1, s2, s3, s4, s5, s6⟩ := hS
        exact ⟨by rw [e5 _ _ (by omega) (by omega), s1], fun i hi => by rw [e5 _ _ (by omega) (by omega), s2 i hi], by rw [e5 _ _ (by omega) (by omega), s3], by rw [e5 _ _ (by omega) (by omega), s4], by rw [e5 _ _ (by omega) (by omega), s5], by rw [e5 _ _ (by omega) (by omega), s6]⟩
      have hV1 : MV M1 c := MV_fr hV fun r i hr => e5 r i (by omega) (by omega)
      have start : pl_search_L51 p1 p2 p3 K (fu + 1) (nI ns) M = if bstI bo = -1 then pl_search_J97 p1 p2 p3 (fun a4 aM => pl_search_L51 p1 p2 p3 K fu a4 aM) K (nI ns) (nI x) M1 else if bstI bo < nI (G x) then K M1 else pl_search_J97 p1 p2 p3 (fun a4 aM => pl_search_L51 p1 p2 p3 K fu a4 aM) K (nI ns) (nI x) M1 := by
        rw [pl_search_L51, hD.1]
        simp (disch := omega) only [n_lit, n_lt, if_pos]
        rw [e1]
        unfold bnd2
        dsimp only
        simp (disch := omega) only [hS1.2.2.2.2.2, chk_in, n_cl, e2.2.1]
      by_cases hbrk : ∃ b, bo = some b ∧ b < G x
      · obtain ⟨b, rfl, hlt⟩ := hbrk
        refine ⟨M1, G, ns, z, some b, ?_, ⟨e2.2.1, hS1, hV1, hB, by omega, fun s hs hsb => ?_⟩, fun r i hr h => e5 r i (by omega) (by omega)⟩
        · rw [start]
          unfold bstI
          dsimp only
          rw [if_neg (nI_nm (by omega)), if_pos (by rw [n_lt (by omega) (by omega)]; exact hlt)]
        · rcases (hO.2.1 s).mp hs with ⟨i, hi, he⟩ | h
          · have g1 := e3 i hi
            have g2 := hsb b rfl
            rw [he] at g1
            omega
          · exact h
      · have hb : ∀ b, bo = some b → G x ≤ b := fun b e => Nat.le_of_not_lt fun q => hbrk ⟨b, e, q⟩
        have goes : pl_search_L51 p1 p2 p3 K (fu + 1) (nI ns) M = pl_search_J97 p1 p2 p3 (fun a4 aM => pl_search_L51 p1 p2 p3 K fu a4 aM) K (nI ns) (nI x) M1 := by
          rw [start]
          cases bo with
          | none => exact if_pos rfl
          | some b =>
            unfold bstI
            dsimp only
            have := hb b rfl
            have hbb : b < 2147483648 := by
              obtain ⟨⟨i, hi, hgi⟩, c2, c3⟩ := hB.2.2.2.2.2.2.2.2.2.2 b rfl
              have := c3 i hi hgi
              have := hB.1 (z i)
              omega
            rw [if_neg (nI_nm hbb), if_neg (by rw [n_lt hbb (by omega)]; omega)]
        have hD12 : DM (wr (wr M1 85 ns (nI x)) 82 6 (nI (ns + 1))) G (no - 1) o1 := DM_cong e2 fun r i hr => by rw [wr_ne (by omega), wr_ne (by omega)]
        have hz12 : ∀ i, i < ns + 1 → wr (wr M1 85 ns (nI x)) 82 6 (nI (ns + 1)) 85 i = nI (upf z ns x i) := fun i hi => by
          rw [wr_ne (by omega)]
          by_cases e : i = ns
          · rw [e, wr_eq, upf_eq]
          · rw [wr_ne (by omega), upf_ne e]
            exact hS1.2.1 i (by omega)
        have hV12 : MV (wr (wr M1 85 ns (nI x)) 82 6 (nI (ns + 1))) c := MV_fr hV1 fun r i hr => by rw [wr_ne (by omega), wr_ne (by omega)]
        have f8 : wr (wr M1 85 ns (nI x)) 82 6 (nI (ns + 1)) 82 8 = nI g := by rw [wr_ne (by omega), wr_ne (by omega)]; exact hS1.2.2.2.1
        have f9 : wr (wr M1 85 ns (nI x)) 82 6 (nI (ns + 1)) 82 9 = bI bm := by rw [wr_ne (by omega), wr_ne (by omega)]; exact hS1.2.2.2.2.1
        have f7 : wr (wr M1 85 ns (nI x)) 82 6 (nI (ns + 1)) 82 7 = nI s0 := by rw [wr_ne (by omega), wr_ne (by omega)]; exact hS1.2.2.1
        have f10 : wr (wr M1 85 ns (nI x)) 82 6 (nI (ns + 1)) 82 10 = bstI bo := by rw [wr_ne (by omega), wr_ne (by omega)]; exact hS1.2.2.2.2.2
        have f6 : wr (wr M1 85 ns (nI x)) 82 6 (nI (ns + 1)) 82 6 = nI (ns + 1) := wr_eq
        have jump : pl_search_J97 p1 p2 p3 (fun a4 aM => pl_search_L51 p1 p2 p3 K fu a4 aM) K (nI ns) (nI x) M1 = if bI (decide (gl g x)) = nI 0 then (pl_spread (nI x) (wr (wr M1 85 ns (nI x)) 82 6 (nI (ns + 1)))).bind (fun M14 => pl_search_L51 p1 p2 p3 K fu (nI (ns + 1)) M14) else pl_search_L51 p1 p2 p3 K fu (nI (ns + 1)) (wr (wr (wr M1 85 ns (nI x)) 82 6 (nI (ns + 1))) 82 10 (nI (G x))) := by
          unfold pl_search_J97
          rw [hS1.1]
          simp (disch := omega) only [n_lit, chk_in, n_cl, lt1_ap]
          rw [wr_ne (M := M1) (r := 85) (r' := 82) (by omega), hS1.1, n_add, k_goal f8 hg (by omega)]
          simp (disch := omega) only [bind_s, hD12.2.1]
        have fr12 : ∀ r i, r < 80 → wr (wr M1 85 ns (nI x)) 82 6 (nI (ns + 1)) r i = M1 r i := fun r i hr => by rw [wr_ne (by omega), wr_ne (by omega)]
        generalize wr (wr M1 85 ns (nI x)) 82 6 (nI (ns + 1)) = M12 at *
        by_cases hgx : gl g x
        · obtain ⟨n1, n2⟩ := st_goal hB hO h0 e3 e4 hb hgx
          obtain ⟨M', G', ns', z', bo', i1, i2, i3⟩ := ih (ns + 1) fu (wr M12 82 10 (nI (G x))) G (no - 1) o1 (upf z ns x) (some (G x)) (by omega) (by omega) (DM_cong hD12 fun r i hr => by rw [wr_ne (by omega)]) ⟨by rw [wr_ne (by omega), f6], fun i hi => by rw [wr_ne (by omega), hz12 i hi], by rw [wr_ne (by omega), f7], by rw [wr_ne (by omega), f8], by rw [wr_ne (by omega), f9], wr_eq⟩ n1 n2 (MV_fr hV12 fun r i hr => wr_ne (by omega))
          refine ⟨M', G', ns', z', bo', ?_, i2, fun r i hr h => ?_⟩
          · rw [goes, jump, decide_eq_true hgx, if_neg (by decide)]
            exact i1
          · rw [i3 r i hr h, wr_ne (by omega), fr12 r i hr, e5 r i (by omega) (by omega)]
        · obtain ⟨M14, G2, no2, o2, s1, s2, s3, s4, s5, s6⟩ := k_spread (ns := ns + 1) hsx hV12 f9 hD12 (by omega) hB.1 (by omega)
          obtain ⟨n1, n2⟩ := st_go hw hB hO h0 e3 e4 hb hgx s3 s4
          obtain ⟨M', G', ns', z', bo', i1, i2, i3⟩ := ih (ns + 1) fu M14 G2 no2 o2 (upf z ns x) bo (by omega) (by omega) s2 ⟨by rw [s6 _ _ (by omega) (by omega) (by omega) (by omega) (by omega) (by omega), f6], fun i hi => by rw [s6 _ _ (by omega) (by omega) (by omega) (by omega) (by omega) (by omega), hz12 i hi], by rw [s6 _ _ (by omega) (by omega) (by omega) (by omega) (by omega) (by omega), f7], by rw [s6 _ _ (by omega) (by omega) (by omega) (by omega) (by omega) (by omega), f8], by rw [s6 _ _ (by omega) (by omega) (by omega) (by omega) (by omega) (by omega), f9], by rw [s6 _ _ (by omega) (by omega) (by omega) (by omega) (by omega) (by omega), f10]⟩ n1 n2 s5
          refine ⟨M', G', ns', z', bo', ?_, i2, fun r i hr h => ?_⟩
          · rw [goes, jump, decide_eq_false hgx, if_pos (show bI false = nI 0 from rfl), s1, bind_s]
            exact i1
          · rw [i3 r i hr h, s6 r i h (by omega) (by omega) (by omega) (by omega) (by omega), fr12 r i hr, e5 r i (by omega) (by omega)]
    · refine ⟨M, G, ns, z, bo, ?_, ⟨hD.2.1, hS, hV, hB, by omega, fun s hs _ => ?_⟩, fun _ _ _ _ => rfl⟩
      · rw [pl_search_L51, hD.1]
        simp (disch := omega) only [n_lit, n_lt, if_neg, if_pos]
      · rcases (hO.2.1 s).mp hs with ⟨i, hi, _⟩ | h
        · omega
        · exact h
