/-! the invariant: what is told, the tapes, the fault, the rule, the image
-/
def KI (T : Nat) (X Y : Mem) : Prop := (X 0 15 = 0 ∧ Y 0 3 = 0) ∨ (X 0 15 = 1 ∧ Y 0 3 = 1 ∧ ∃ k, XRv 22 X k ∧ XB 44 X k ∧ WR k ∧ WB T k ∧ (∀ i, i < 648 → Y 2 i = cI k i) ∧ RuX 68 X k)
theorem KI_cong {T T' : Nat} {X Y X' Y' : Mem} (h : KI T X Y) (hT : T ≤ T') (hX : ∀ r i, ((22 ≤ r ∧ r < 30) ∨ (44 ≤ r ∧ r < 57) ∨ (68 ≤ r ∧ r < 72) ∨ (r = 0 ∧ i = 15)) → X' r i = X r i) (hY : ∀ r i, (r = 2 ∨ (r = 0 ∧ i = 3)) → Y' r i = Y r i) : KI T' X' Y' := by
  rcases h with ⟨h1, h2⟩ | ⟨h1, h2, k, g1, g2, g3, g4, g5, g6⟩
  · exact Or.inl ⟨by rw [hX _ _ (by omega), h1], by rw [hY _ _ (by omega), h2]⟩
  · exact Or.inr ⟨by rw [hX _ _ (by omega), h1], by rw [hY _ _ (by omega), h2], k, XR_cong g1 fun r i a d => hX r i (by omega), XB_cong g2 fun r i a d => hX r i (by omega), g3, WB_le g4 hT, fun i hi => by rw [hY _ _ (by omega), g5 i hi], RuX_cong g6 (hX _ _ (by omega)) (fun j _ => ⟨hX _ _ (by omega), hX _ _ (by omega)⟩) (fun i _ => hX _ _ (by omega)) (fun _ _ => rfl)⟩
theorem SV_cong {T T' : Nat} {X Y X' Y' : Mem} {c : Nat → Nat} (h : SV T X Y c) (hT : T ≤ T') (hX : ∀ r i, ((6 ≤ r ∧ r < 14) ∨ (30 ≤ r ∧ r < 43)) → X' r i = X r i) (hz : Z0 X') (hY : ∀ i, Y' 1 i = Y 1 i) : SV T' X' Y' c := ⟨XR_cong h.1 fun r i a d => hX r i (by omega), XB_cong h.2.1 fun r i a d => hX r i (by omega), h.2.2.1, WB_le h.2.2.2.1 hT, EY_fr h.2.2.2.2.1 hY, hz⟩
theorem Z0_cong {X X' : Mem} (h : Z0 X) (hX : ∀ r i, 76 ≤ r → r ≤ 78 → X' r i = X r i) : Z0 X' := ⟨by rw [hX _ _ (by omega) (by omega)]; exact h.1, by rw [hX _ _ (by omega) (by omega)]; exact h.2.1, by rw [hX _ _ (by omega) (by omega)]; exact h.2.2⟩
theorem TPE_cong {X Y X' Y' : Mem} {n : Nat} {b : Nat → Nat} (h : TPE X Y n b) (hX : ∀ r i, ((r = 1 ∧ i = 1) ∨ r = 2) → X' r i = X r i) (hY : ∀ r i, ((r = 0 ∧ i = 6) ∨ r = 4) → Y' r i = Y r i) : TPE X' Y' n b := ⟨h.1, by rw [hX _ _ (by omega), h.2.1], by rw [hY _ _ (by omega), h.2.2.1], fun i hi => ⟨by rw [hX _ _ (by omega)]; exact (h.2.2.2 i hi).1, by rw [hY _ _ (by omega)]; exact (h.2.2.2 i hi).2.1, (h.2.2.2 i hi).2.2⟩⟩
theorem TPE_0 {X Y : Mem} (h1 : X 1 1 = nI 0) (h2 : Y 0 6 = nI 0) : TPE X Y 0 (fun _ => 0) := ⟨by omega, h1, h2, fun i hi => absurd hi (by omega)⟩
def JV (t : Nat) (X Y : Mem) : Prop := ∃ T c n b, T + t ≤ 512 ∧ SV T X Y c ∧ TPE X Y n b ∧ X 0 16 = Y 0 10 ∧ RuX 58 X c ∧ KI T X Y
theorem RuX_c {X X' : Mem} {c c' : Nat → Nat} (h : RuX 58 X c) (hX : ∀ r i, ((r = 58 ∧ i = 0) ∨ (59 ≤ r ∧ r ≤ 61)) → X' r i = X r i) (hc : RuC c c') : RuX 58 X' c' := RuX_cong h (hX _ _ (by omega)) (fun j _ => ⟨hX _ _ (by omega), hX _ _ (by omega)⟩) (fun i _ => hX _ _ (by omega)) hc
theorem RuC_rfl {c : Nat → Nat} : RuC c c := fun _ _ => rfl
theorem JV_cong {t : Nat} {X Y X' Y' : Mem} (h : JV t X Y) (hX : ∀ r i, r < 95 → X' r i = X r i) (hY : ∀ r i, r < 16 → Y' r i = Y r i) : JV t X' Y' := by
  obtain ⟨T, c, n, b, h1, h2, h3, h4, h5, h6⟩ := h
  exact ⟨T, c, n, b, h1, SV_cong h2 (Nat.le_refl _) (fun r i q => hX r i (by omega)) (Z0_cong h2.2.2.2.2.2 fun r i _ _ => hX r i (by omega)) (fun i => hY 1 i (by omega)), TPE_cong h3 (fun r i q => hX r i (by omega)) (fun r i q => hY r i (by omega)), by rw [hX _ _ (by omega), hY _ _ (by omega), h4], RuX_c h5 (fun r i q => hX r i (by omega)) RuC_rfl, KI_cong h6 (Nat.le_refl _) (fun r i q => hX r i (by omega)) (fun r i q => hY r i (by omega))⟩
theorem JV_res {t : Nat} {X Y : Mem} (h : JV t X Y) : JV t (res X 95) (res Y 16) := JV_cong h (fun r i q => if_pos q) (fun r i q => if_pos q)
theorem JV_less {t : Nat} {X Y : Mem} (h : JV (t + 1) X Y) : JV t X Y := by
  obtain ⟨T, c, n, b, h1, h2⟩ := h
  exact ⟨T, c, n, b, by omega, h2⟩
/-- a call that leaves all but what is its own -/
theorem JV_fr {t : Nat} {X Y X' Y' : Mem} (h : JV (t + 1) X Y) (hX : ∀ r i, ((r = 0 ∧ (i = 15 ∨ i = 16)) ∨ (r = 1 ∧ i = 1) ∨ r = 2 ∨ (6 ≤ r ∧ r < 14) ∨ (22 ≤ r ∧ r < 43) ∨ (44 ≤ r ∧ r < 57) ∨ (r = 58 ∧ i = 0) ∨ (59 ≤ r ∧ r < 62) ∨ (68 ≤ r ∧ r < 72)) → X' r i = X r i) (hz : Z0 X') (hY : ∀ r i, (r = 1 ∨ r = 2 ∨ r = 4 ∨ (r = 0 ∧ (i = 3 ∨ i = 6 ∨ i = 10))) → Y' r i = Y r i) : JV t X' Y' := by
  obtain ⟨T, c, n, b, h1, h2, h3, h4, h5, h6⟩ := h
  exact ⟨T, c, n, b, by omega, SV_cong h2 (Nat.le_refl _) (fun r i q => hX r i (by omega)) hz (fun i => hY 1 i (by omega)), TPE_cong h3 (fun r i q => hX r i (by omega)) (fun r i q => hY r i (by omega)), by rw [hX _ _ (by omega), hY _ _ (by omega), h4], RuX_c h5 (fun r i q => hX r i (by omega)) RuC_rfl, KI_cong h6 (Nat.le_refl _) (fun r i q => hX r i (by omega)) (fun r i q => hY r i (by omega))⟩
theorem JV_Z {t : Nat} {X Y : Mem} (h : JV t X Y) : Z0 X := by
  obtain ⟨T, c, n, b, h1, h2, _⟩ := h
  exact h2.2.2.2.2.2
/-- a move: T grows -/
theorem JV_out {t T n : Nat} {X Y X' Y' : Mem} {c c' b : Nat → Nat} (h1 : T + (t + 1) ≤ 512) (h3 : TPE X Y n b) (h4 : X 0 16 = Y 0 10) (h5 : RuX 58 X c) (h6 : KI T X Y) (ho : Out (T + 1) X Y X' Y' c c') : JV t X' Y' := by
  obtain ⟨g1, g2, g3, g4⟩ := ho
  exact ⟨T + 1, c', n, b, by omega, g1, TPE_cong h3 (fun r i q => g2 r i (by omega)) (fun r i q => g3 r i (by omega)), by rw [g2 _ _ (by omega), g3 _ _ (by omega), h4], RuX_c h5 (fun r i q => g2 r i (by omega)) g4, KI_cong h6 (Nat.le_succ T) (fun r i q => g2 r i (by omega)) (fun r i q => g3 r i (by omega))⟩
theorem s1_of {I : Mem → Mem → Prop} {e1 e : Nat} {v u : Int32} {X' Y' : Mem} {A : Option XR} {B : Option (Int32 × Mem)} (hA : A = some (e, v, X')) (hB : B = some (u, Y')) (h : (e = 0 ∧ Y' 0 0 = 0 ∧ v = u) ∨ (¬ e = 0 ∧ e = e1 ∧ Y' 0 0 = 1)) (hI : I X' Y') : St1 I e1 A B := ⟨e, v, X', u, Y', Y' 0 0, hA, hB, rfl, h, hI⟩
theorem s2_of {I : Mem → Mem → Prop} {e1 e2 e : Nat} {v u : Int32} {X' Y' : Mem} {A : Option XR} {B : Option (Int32 × Mem)} (hA : A = some (e, v, X')) (hB : B = some (u, Y')) (h : (e = 0 ∧ Y' 0 0 = 0 ∧ v = u) ∨ (¬ e = 0 ∧ e = e1 ∧ Y' 0 0 = 1) ∨ (¬ e = 0 ∧ ¬ e = e1 ∧ e = e2 ∧ Y' 0 0 = 2)) (hI : I X' Y') : St2 I e1 e2 A B := ⟨e, v, X', u, Y', Y' 0 0, hA, hB, rfl, h, hI⟩
theorem j_feed {t : Nat} : Sp_feed (JV (t + 1)) (JV t) := fun X Y h p1 p2 p3 p4 p5 => by
  obtain ⟨T, c, n, b, h1, h2, h3, h4, h5, h6⟩ := h
  obtain ⟨v, X', Y', k, b', g1, g2, g3, g4, g5⟩ := m_feed h3 p1 p2 p3 p4 p5
  exact ⟨v, X', Y', g1, g2, T, c, k, b', by omega, SV_cong h2 (Nat.le_refl _) (fun r i q => g4 r i (by omega) (by omega)) (Z0_cong h2.2.2.2.2.2 fun r i _ _ => g4 r i (by omega) (by omega)) (fun i => g5 1 i (by omega) (by omega)), g3, by rw [g4 _ _ (by omega) (by omega), g5 _ _ (by omega) (by omega), h4], RuX_c h5 (fun r i q => g4 r i (by omega) (by omega)) RuC_rfl, KI_cong h6 (Nat.le_refl _) (fun r i q => g4 r i (by omega) (by omega)) (fun r i q => g5 r i (by omega) (by omega))⟩
theorem j_end {t : Nat} : Sp_end (JV (t + 1)) (JV t) := fun X Y h p1 => by
  obtain ⟨T, c, n, b, h1, h2, h3, h4, h5, h6⟩ := h
  obtain ⟨v, X', Y', k, g1, g2, g3, g4, g5⟩ := m_end h3 p1
  exact ⟨v, X', Y', g1, g2, T, c, k, b, by omega, SV_cong h2 (Nat.le_refl _) (fun r i q => g4 r i (by omega)) (Z0_cong h2.2.2.2.2.2 fun r i _ _ => g4 r i (by omega)) (fun i => g5 1 i (by omega) (by omega)), g3, by rw [g4 _ _ (by omega), g5 _ _ (by omega) (by omega), h4], RuX_c h5 (fun r i q => g4 r i (by omega)) RuC_rfl, KI_cong h6 (Nat.le_refl _) (fun r i q => g4 r i (by omega)) (fun r i q => g5 r i (by omega) (by omega))⟩
theorem j_river {t : Nat} : Sp_river (JV (t + 1)) (JV t) := fun X Y h => by
  obtain ⟨T, c, n, b, h1, h2, h3, h4, h5, h6⟩ := h
  obtain ⟨e, v, X', u, Y', c', g1, g2, g3, g4, g5, g6, g7, g8, g9, g10⟩ := m_river h2 h3
  refine s2_of g1 g2 ?_ ⟨T, c', 0, _, by omega, g4, TPE_0 g5 g6, g7, RuX_c h5 (fun r i q => g8 r i (by omega)) g10, KI_cong h6 (Nat.le_refl _) (fun r i q => g8 r i (by omega)) g9⟩
  rcases g3 with q | ⟨q, q2⟩ | ⟨q, q2⟩
  · exact Or.inl q
  · exact Or.inr (Or.inl ⟨by omega, q, q2⟩)
  · exact Or.inr (Or.inr ⟨by omega, by omega, q, q2⟩)
theorem j_rule {t : Nat} : Sp_rule (JV (t + 1)) (JV t) := fun X Y h => by
  obtain ⟨T, c, n, b, h1, h2, h3, h4, h5, h6⟩ := h
  obtain ⟨e, v, X', u, Y', c', g1, g2, g3, g4, g5, g6, g7, g8, g9, g10⟩ := m_rule h2 h3 h5
  exact s1_of g1 g2 g3 ⟨T, c', 0, _, by omega, g4, TPE_0 g5 g6, g7, g8, KI_cong h6 (Nat.le_refl _) (fun r i q => g9 r i (by omega)) g10⟩
theorem j_fault {t : Nat} : Sp_fault (JV (t + 1)) (JV t) := fun X Y h => by
  have h4 : X 0 16 = Y 0 10 := by
    obtain ⟨T, c, n, b, h1, h2, h3, h4, _⟩ := h
    exact h4
  obtain ⟨g1, g2⟩ := m_fault h4
  exact ⟨_, _, g1, g2, JV_fr h (fun _ _ _ => rfl) (JV_Z h) (fun r i q => wr_ne (by omega))⟩
theorem j_look {t : Nat} : Sp_look (JV (t + 1)) (JV t) := fun X Y h p1 p2 => by
  obtain ⟨T, c, n, b, h1, h2, _⟩ := id h
  obtain ⟨e, v, u, Y', g1, g2, g3, g4⟩ := m_look h2 (by omega) p1 p2
  exact s2_of g1 g2 g3 (JV_fr h (fun _ _ _ => rfl) (JV_Z h) (fun r i q => g4 r i (by omega)))
theorem j_need {t : Nat} : Sp_need (JV (t + 1)) (JV t) := fun X Y h p1 => by
  obtain ⟨T, c, n, b, h1, h2, _⟩ := id h
  obtain ⟨v, X', g1, g2, g3, g4, g5⟩ := m_need (SV_LV h2 (by omega)) h2.2.2.2.2.2 h2.2.2.2.2.1 p1
  exact ⟨v, X', _, g1, g2, JV_fr h (fun r i q => g5 r i (by omega)) g4 (fun r i q => wr_ne (by omega))⟩
theorem j_cross {t : Nat} : Sp_cross (JV (t + 1)) (JV t) := fun X Y h p1 p2 => by
  obtain ⟨T, c, n, b, h1, h2, h3, h4, h5, h6⟩ := h
  obtain ⟨e, v, X', u, Y', c', g1, g2, g3, g4⟩ := m_cross h2 (by omega) p1 p2
  exact s1_of g1 g2 g3 (JV_out h1 h3 h4 h5 h6 g4)
theorem j_swim {t : Nat} : Sp_swim (JV (t + 1)) (JV t) := fun X Y h p1 => by
  obtain ⟨T, c, n, b, h1, h2, h3, h4, h5, h6⟩ := h
  obtain ⟨e, v, X', u, Y', c', g1, g2, g3, g4⟩ := m_swim h2 (by omega) p1
  exact s2_of g1 g2 g3 (JV_out h1 h3 h4 h5 h6 g4)
theorem j_rest {t : Nat} : Sp_rest (JV (t + 1)) (JV t) := fun X Y h p1 => by
  obtain ⟨T, c, n, b, h1, h2, h3, h4, h5, h6⟩ := h
  obtain ⟨e, v, X', u, Y', c', g1, g2, g3, g4⟩ := m_rest h2 (by omega) p1
  exact s1_of g1 g2 g3 (JV_out h1 h3 h4 h5 h6 g4)
theorem j_may {t : Nat} : Sp_may (JV (t + 1)) (JV t) := fun X Y h p1 => by
  obtain ⟨T, c, n, b, h1, h2, _⟩ := id h
  obtain ⟨v, g1, g2⟩ := m_may (SV_LV h2 (by omega)) h2.2.2.2.2.1 p1
  exact ⟨v, _, g1, g2, JV_fr h (fun _ _ _ => rfl) (JV_Z h) (fun r i q => wr_ne (by omega))⟩
theorem j_owed {t : Nat} : Sp_owed (JV (t + 1)) (JV t) := fun X Y h p1 p2 => by
  obtain ⟨T, c, n, b, h1, h2, _⟩ := id h
  obtain ⟨e, v, u, Y', g1, g2, g3, g4⟩ := m_owed h2 p1 p2
  exact s1_of g1 g2 g3 (JV_fr h (fun _ _ _ => rfl) (JV_Z h) (fun r i q => g4 r i (by omega)))
theorem j_clear {t : Nat} : Sp_clear (JV (t + 1)) (JV t) := fun X Y h p1 => by
  obtain ⟨T, c, n, b, h1, h2, _⟩ := id h
  obtain ⟨e, v, X', u, Y', g1, g2, g3, g4, g5⟩ := m_clear h2 (by omega) p1
  exact s1_of g1 g2 g3 (JV_fr h (fun r i q => g4 r i (by omega)) (Z0_cong (JV_Z h) fun r i _ _ => g4 r i (by omega)) (fun r i q => g5 r i (by omega) (by omega)))
theorem j_plan {t : Nat} : Sp_plan (JV (t + 1)) (JV t) := fun X Y h p1 p2 hp2 p3 => by
  obtain ⟨T, c, n, b, h1, h2, _⟩ := id h
  obtain ⟨e, v, X', u, Y', g1, g2, g3, g4, g5, g6, g7⟩ := m_plan h2 (by omega) p1 p2 p3 hp2
  exact s1_of g1 g2 g3 (JV_fr h (fun r i q => g6 r i (by omega)) g5 (fun r i q => g7 r i (by omega) (by omega) (by omega)))
theorem j_row {t : Nat} : Sp_row (JV (t + 1)) (JV t) := fun X Y h p1 p2 hp2 p3 => by
  obtain ⟨T, c, n, b, h1, h2, _⟩ := id h
  obtain ⟨v, X', Y', g1, g2, g4, g5, g6, g7⟩ := m_row h2 (by omega) p1 p2 p3 hp2
  exact ⟨v, X', Y', g1, g2, JV_fr h (fun r i q => g6 r i (by omega)) g5 (fun r i q => g7 r i (by omega) (by omega) (by omega))⟩
theorem j_left {t : Nat} : Sp_left (JV (t + 1)) (JV t) := fun X Y h => by
  obtain ⟨T, c, n, b, h1, h2, _⟩ := id h
  obtain ⟨v, X', Y', g1, g2, g4, g5, g6, g7⟩ := m_left h2 (by omega)
  exact ⟨v, X', Y', g1, g2, JV_fr h (fun r i q => g6 r i (by omega)) g5 (fun r i q => g7 r i (by omega) (by omega))⟩
theorem j_lost {t : Nat} : Sp_lost (JV (t + 1)) (JV t) := fun X Y h p1 => by
  obtain ⟨T, c, n, b, h1, h2, h3, h4, h5, h6⟩ := h
  obtain ⟨e, v, X', u, Y', g1, g2, g3, g4, g5, g6, g7, g8, g9⟩ := m_lost h2 (by omega) h3 p1
  exact s1_of g1 g2 g3 ⟨T, c, 0, _, by omega, SV_cong h2 (Nat.le_refl _) (fun r i q => g8 r i (by omega) (by omega)) g5 (fun i => g9 1 i (by omega) (by omega) (by omega) (by omega)), TPE_0 g6 g7, by rw [g8 _ _ (by omega) (by omega), g9 _ _ (by omega) (by omega) (by omega) (by omega), h4], RuX_c h5 (fun r i q => g8 r i (by omega) (by omega)) RuC_rfl, KI_cong h6 (Nat.le_refl _) (fun r i q => g8 r i (by omega) (by omega)) (fun r i q => g9 r i (by omega) (by omega) (by omega) (by omega))⟩
theorem j_fair {t : Nat} : Sp_fair (JV (t + 1)) (JV t) := fun X Y h p1 p2 p3 p4 p5 => by
  obtain ⟨T, c, n, b, h1, h2, h3, h4, h5, h6⟩ := id h
  obtain ⟨e, v, X', u, Y', g1, g2, g3, g4, g5, g6, g7⟩ := m_fair h2 (by omega) h5 p1 p2 p3 p4 p5
  exact s2_of g1 g2 g3 (JV_fr h (fun r i q => g6 r i (by omega) (by omega) (by omega)) g5 (fun r i q => g7 r i (by omega)))
theorem j_image {t : Nat} : Sp_image (JV (t + 1)) (JV t) := fun X Y h => by
  obtain ⟨T, c, n, b, h1, h2, h3, h4, h5, h6⟩ := h
  obtain ⟨X', Y', g1, g2, g3, g4, g5, g6, g7, g8, g9, g10⟩ := m_image h2 h5
  exact ⟨X', Y', g1, g2, T, c, n, b, by omega, SV_cong h2 (Nat.le_refl _) (fun r i q => g9 r i (by omega)) (Z0_cong h2.2.2.2.2.2 fun r i _ _ => g9 r i (by omega)) (fun i => g10 1 i (by omega)), TPE_cong h3 (fun r i q => g9 r i (by omega)) (fun r i q => g10 r i (by omega)), by rw [g9 _ _ (by omega), g10 _ _ (by omega), h4], RuX_c h5 (fun r i q => g9 r i (by omega)) RuC_rfl, Or.inr ⟨g3, g4, c, g5, g6, h2.2.2.1, h2.2.2.2.1, g8, g7⟩⟩
theorem j_back {t : Nat} : Sp_back (JV (t + 1)) (JV t) := fun X Y h => by
  obtain ⟨T, c, n, b, h1, h2, h3, h4, h5, h6⟩ := id h
  rcases id h6 with ⟨q1, q2⟩ | ⟨q1, q2, k, k1, k2, k3, k4, k5, k6⟩
  · obtain ⟨g1, g2⟩ := m_back0 q1 q2
    exact ⟨0, X, _, g1, g2, JV_fr h (fun _ _ _ => rfl) (JV_Z h) (fun r i q => wr_ne (by omega))⟩
  · obtain ⟨X', Y', g1, g2, g3, g4, g5, g6⟩ := m_back1 h2 q1 q2 k1 k2 k3 k4 k5 k6
    exact ⟨1, X', Y', g1, g2, T, k, n, b, by omega, g3, TPE_cong h3 (fun r i q => g5 r i (by omega)) (fun r i q => g6 r i (by omega)), by rw [g5 _ _ (by omega), g6 _ _ (by omega), h4], g4, KI_cong h6 (Nat.le_refl _) (fun r i q => g5 r i (by omega)) (fun r i q => g6 r i (by omega))⟩
theorem j_count {t : Nat} : Sp_count (JV (t + 1)) (JV t) := fun X Y h p1 => by
  obtain ⟨T, c, n, b, h1, h2, h3, h4, h5, h6⟩ := id h
  obtain ⟨v, g1, g2⟩ := m_count h2 (by omega) (RuX_l h5).1 p1
  exact ⟨v, _, g1, g2, JV_fr h (fun _ _ _ => rfl) (JV_Z h) (fun r i q => wr_ne (by omega))⟩
theorem JV_all : SpAll JV := fun t => ⟨fun X Y h => JV_res h, fun X Y h => JV_less h, j_feed, j_end, j_river, j_rule, j_fault, j_look, j_need, j_cross, j_swim, j_rest, j_may, j_owed, j_clear, j_plan, j_row, j_left, j_lost, j_fair, j_image, j_back, j_count⟩
