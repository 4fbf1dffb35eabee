/-! the start: what the tables say -/
section Start
variable {args : Array Value} {s : State}
theorem st_tg (hts : ∀ w ∈ lw_tbl, w.before args s = true) : ∀ c ∈ Tg, c.before args s = true := fun c h => hts c (List.mem_filter.mp h).1
theorem st_one (hts : ∀ w ∈ lw_tbl, w.before args s = true) (c : Nat) (q : vw_C) (n : Nat) (h1 : vwCl[c]? = some q) (h2 : CLs c) (h3 : Cond.instantiable q.1 n ∈ lw_tbl) : ∃ x : ClassId × (Nat → Nat), ∀ q, vwCl[c]? = some q → u_Kn s q.1 q.2.1 q.2.2 x.1 x.2 := by
  obtain ⟨C, T, N⟩ := q
  obtain ⟨cC, iS, h⟩ := u_known (n := n) (st_tg hts) (h2 _ _ _ h1).1 (hts _ h3)
  exact ⟨(cC, iS), fun q' hq => by cases h1.symm.trans hq; exact h⟩
theorem st_cls (hts : ∀ w ∈ lw_tbl, w.before args s = true) : ∃ D : va_G, ∀ (c : Nat) (q : vw_C), vwCl[c]? = some q → u_Kn s q.1 q.2.1 q.2.2 (D.1 c) (D.2 c) := by
  have h : ∀ c : Nat, ∃ x : ClassId × (Nat → Nat), ∀ q, vwCl[c]? = some q → u_Kn s q.1 q.2.1 q.2.2 x.1 x.2 := by
    intro c
    match c with
    | 0 => exact st_one hts 0 _ 8 rfl cl_0 (tb1 154 _ rfl)
    | 1 => exact st_one hts 1 _ 14 rfl cl_1 (tb2 121 _ rfl)
    | 2 => exact st_one hts 2 _ 11 rfl cl_2 (tb2 18 _ rfl)
    | 3 => exact st_one hts 3 _ 3 rfl cl_3 (tb2 105 _ rfl)
    | 4 => exact st_one hts 4 _ 11 rfl cl_4 (tb2 65 _ rfl)
    | 5 => exact st_one hts 5 _ 15 rfl cl_5 (tb1 74 _ rfl)
    | 6 => exact st_one hts 6 _ 2 rfl cl_6 (tb1 232 _ rfl)
    | 7 => exact st_one hts 7 _ 10 rfl cl_7 (tb1 194 _ rfl)
    | 8 => exact st_one hts 8 _ 2 rfl cl_8 (tb2 5 _ rfl)
    | 9 => exact st_one hts 9 _ 7 rfl cl_9 (tb1 40 _ rfl)
    | 10 => exact st_one hts 10 _ 17 rfl cl_10 (tb1 32 _ rfl)
    | 11 => exact st_one hts 11 _ 28 rfl cl_11 (tb6 102 _ rfl)
    | c + 12 => exact ⟨(default, fun _ => 0), fun q hq => absurd (List.getElem?_eq_some_iff.mp hq).1 (by show ¬ c + 12 < 12; omega)⟩
  obtain ⟨f, hf⟩ := Classical.axiomOfChoice h
  exact ⟨(fun c => (f c).1, fun c => (f c).2), hf⟩
theorem st_arr (hts : ∀ w ∈ lw_tbl, w.before args s = true) {ty : FieldType} (h : Cond.arrayClass ty ∈ lw_tbl) (hp : ∀ n, ty ≠ .object n) : ∃ cA : ClassId, ArrOfT s cA ty ∧ va_RA s cA ty := by
  obtain ⟨c, k, comp, h1, h2, h3⟩ := Cond.arrayClass_spec (hts _ h)
  refine ⟨c, fun n z => ⟨fun k h => (by cases h), k, h2, comp, h3⟩, ?_⟩
  unfold va_RA
  cases ty with
  | object n => exact absurd rfl (hp n)
  | _ => exact h1
theorem st_rest (hts : ∀ w ∈ lw_tbl, w.before args s = true) (hpre : (Jvm.Cond.and given_1 narrow_1).before args s = true) : (∀ q ∈ nstF, va_Nw (mkF q) s) ∧ (∀ q ∈ nstM, va_Nw (mkM q) s) ∧ (∀ c ∈ exL, va_Nw (.castable c c) s) ∧ (∀ y ∈ dclL, va_Nw (.declares y) s) ∧ (∀ q ∈ ncL, va_Nc q.1 q.2 s) ∧ va_AO "RopeFerry$Thing" s ∧ va_AOi s := by
  refine ⟨fun q hq => ?_, fun q hq => ?_, fun c hc => ?_, fun y hy => ?_, fun q hq => ?_, ?_, ?_⟩
  · exact va_Nw.of rfl (hts _ ((by decide +kernel : ∀ q ∈ nstF, mkF q ∈ lw_tbl) q hq))
  · exact va_Nw.of rfl (hts _ ((by decide +kernel : ∀ q ∈ nstM, mkM q ∈ lw_tbl) q hq))
  · exact va_Nw.of rfl (hts _ ((by decide +kernel : ∀ c ∈ exL, Cond.castable c c ∈ lw_tbl) c hc))
  · exact va_Nw.of rfl (hts _ ((by decide +kernel : ∀ y ∈ dclL, Cond.declares y ∈ lw_tbl) y hy))
  · exact va_Nc.of (flat_of_before _ hpre _ ((by decide +kernel : ∀ q ∈ ncL, Cond.not (.castable q.1 q.2) ∈ Jvm.Free.XT.flat (Jvm.Cond.and given_1 narrow_1)) q hq))
  · exact va_AO.of (hts _ (tb1 46 _ rfl))
  · exact (hts _ (tb1 160 _ rfl) : (Cond.arrayOver (.array .int)).before args s = true)
abbrev nrw : List Cond := Jvm.Free.XT.flat (Jvm.Cond.and given_1 narrow_1)
abbrev sTm (i : Nat) : Term := .string (strT.getD i ("", 0, "")).1 (strT.getD i ("", 0, "")).2.1
abbrev sVl (i : Nat) : Term := .field (sTm i) "java/lang/String" "value" "[B"
def sWs (i : Nat) : List Cond := Cond.exactly (sTm i) "java/lang/String" :: Cond.eq (.field (sTm i) "java/lang/String" "coder" "B") (.int 0) :: Cond.arrayOf (sVl i) .byte :: Cond.eq (.length (sVl i)) (.int (Int32.ofNat (strB.getD i []).length)) :: (List.range (strB.getD i []).length).map (fun j => Cond.eq (.elem (sVl i) (.int (Int32.ofNat j))) (.int ((strB.getD i []).getD j 0)))
theorem st_w1 : ∀ i, i < 58 → Cond.stringRef (strT.getD i ("", 0, "")).1 (strT.getD i ("", 0, "")).2.1 (strT.getD i ("", 0, "")).2.2 ∈ lw_tbl := by decide +kernel
theorem st_len : ∀ i, i < 58 → (strB.getD i []).length < 2 ^ 31 := by decide +kernel
def isSS : Cond → Bool
  | .eq (.string _ _) (.string _ _) => true
  | _ => false
theorem st_all : (nrw.drop 217).filter (fun c => !isSS c) = (List.range 58).flatMap sWs := by decide +kernel
theorem st_in {i : Nat} (hi : i < 58) {c : Cond} (h : c ∈ sWs i) : c ∈ nrw := by
  have h1 : c ∈ (List.range 58).flatMap sWs := List.mem_flatMap.mpr ⟨i, List.mem_range.mpr hi, h⟩
  rw [← st_all] at h1
  exact List.mem_of_mem_drop (List.mem_filter.mp h1).1
theorem st_w2 (i : Nat) (hi : i < 58) : Cond.exactly (sTm i) "java/lang/String" ∈ nrw ∧ Cond.eq (.field (sTm i) "java/lang/String" "coder" "B") (.int 0) ∈ nrw ∧ Cond.arrayOf (sVl i) .byte ∈ nrw ∧ Cond.eq (.length (sVl i)) (.int (Int32.ofNat (strB.getD i []).length)) ∈ nrw ∧ (strB.getD i []).length < 2 ^ 31 :=
  ⟨st_in hi List.mem_cons_self, st_in hi (List.mem_cons_of_mem _ List.mem_cons_self), st_in hi (List.mem_cons_of_mem _ (List.mem_cons_of_mem _ List.mem_cons_self)), st_in hi (List.mem_cons_of_mem _ (List.mem_cons_of_mem _ (List.mem_cons_of_mem _ List.mem_cons_self))), st_len i hi⟩
theorem st_w3 (i : Nat) (hi : i < 58) (j : Nat) (hj : j < (strB.getD i []).length) : Cond.eq (.elem (sVl i) (.int (Int32.ofNat j))) (.int ((strB.getD i []).getD j 0)) ∈ nrw :=
  st_in hi (List.mem_cons_of_mem _ (List.mem_cons_of_mem _ (List.mem_cons_of_mem _ (List.mem_cons_of_mem _ (List.mem_map.mpr ⟨j, List.mem_range.mpr hj, rfl⟩)))))
theorem st_str2 (hts : ∀ w ∈ lw_tbl, w.before args s = true) (hpre : (Jvm.Cond.and given_1 narrow_1).before args s = true) {A : Nat → Prop} (hA : ∀ a : Nat, a < s.heap.size → ¬ A a) : ∃ f v : Nat → Nat, ∀ i : Nat, i < 58 → (sTm i).eval args s none [] s = some (.ref (f i)) ∧ vk_R (strT.getD i ("", 0, "")).1 (strT.getD i ("", 0, "")).2.1 (strT.getD i ("", 0, "")).2.2 (f i) s ∧
    va_O "java/lang/String" (f i) A s s.heap ∧ va_OF "java/lang/String" "coder" "B" (.int 0) (f i) A s s.heap ∧ va_OF "java/lang/String" "value" "[B" (.ref (v i)) (f i) A s s.heap ∧ va_T .byte (v i) (strB.getD i []).length (fun j => .int ((strB.getD i []).getD j 0)) A s s.heap := by
  have h : ∀ i : Nat, ∃ x : Nat × Nat, i < 58 → (sTm i).eval args s none [] s = some (.ref x.1) ∧ vk_R (strT.getD i ("", 0, "")).1 (strT.getD i ("", 0, "")).2.1 (strT.getD i ("", 0, "")).2.2 x.1 s ∧
      va_O "java/lang/String" x.1 A s s.heap ∧ va_OF "java/lang/String" "coder" "B" (.int 0) x.1 A s s.heap ∧ va_OF "java/lang/String" "value" "[B" (.ref x.2) x.1 A s s.heap ∧ va_T .byte x.2 (strB.getD i []).length (fun j => .int ((strB.getD i []).getD j 0)) A s s.heap := by
    intro i
    by_cases hi : i < 58
    · obtain ⟨w1, w2, w3, w4, w5⟩ := st_w2 i hi
      have h1 := hts _ (st_w1 i hi)
      have hf := flat_of_before _ hpre
      obtain ⟨a, c, cA, kA, q1, -⟩ := Cond.exactly_spec (args := args) (first := s) (o := none) (s := s) (idx := []) (t := sTm i) (cls := "java/lang/String") (hf _ w1)
      obtain ⟨t, q2, q3⟩ := va_Tof (A := A) (f := fun j => .int ((strB.getD i []).getD j 0)) w5 (hf _ w3) (va_eqt (hf _ w4)) (fun j hj => va_eqt (hf _ (st_w3 i hi j hj))) hA
      exact ⟨(a, t), fun _ => ⟨q1, vk_R.of h1 q1, va_Oof (hf _ w1) q1 hA, vk_OFof q1 (va_eqt (hf _ w2)) hA, vk_OFof q1 q2 hA, q3⟩⟩
    · exact ⟨(0, 0), fun h => absurd h hi⟩
  obtain ⟨f, hf⟩ := Classical.axiomOfChoice h
  exact ⟨fun i => (f i).1, fun i => (f i).2, hf⟩
theorem st_ao {n : String} (h : (Cond.arrayOver (.object n)).before args s = true) : ∃ cA : ClassId, ArrOfT s cA (.object n) ∧ va_RA s cA (.object n) := by
  obtain ⟨comp, c, k, h1, -, h3, h4, h5⟩ := Cond.arrayOver_spec h
  exact ⟨c, fun m z => ⟨fun k h => (by cases h), k, h3, comp, h4⟩, k, comp, h3, h4, h1, h5⟩
theorem st_ai (h : va_AOi s) : ∃ cA : ClassId, ArrOfT s cA (.array .int) ∧ va_RA s cA (.array .int) := by
  unfold va_AOi Cond.before Cond.holds at h
  simp only [Cond.value, beq_iff_eq] at h
  cases hc : s.vm.findClass (FieldType.array .int).toString with
  | none => simp [hc] at h
  | some comp =>
    simp only [hc, Option.bind_some, Option.bind_eq_some_iff, Option.map_eq_some_iff] at h
    obtain ⟨c, hi, k, hk, hb⟩ := h
    cases hkk : k.kind with
    | array cm ty =>
      rw [hkk] at hb
      simp only [Bool.and_eq_true, decide_eq_true_eq] at hb
      obtain ⟨rfl, hf⟩ := hb
      exact ⟨c, fun m z => ⟨fun k h => (by cases h), k, hk, cm, hkk⟩, hf⟩
    | _ => rw [hkk] at hb; cases hb
theorem st_K (hts : ∀ w ∈ lw_tbl, w.before args s = true) : ∃ (D : va_G) (tc : Nat → ClassId), va_K D vwCl [(tc 0, .int), (tc 1, .int), (tc 2, .boolean), (tc 3, .long), (tc 4, .object "RopeFerry$Thing"), (tc 5, .array .int)] s := by
  obtain ⟨D, hD⟩ := st_cls hts
  obtain ⟨c1, h1⟩ := st_arr hts (ty := .int) (tb1 72 _ rfl) (fun n h => by cases h)
  obtain ⟨c2, h2⟩ := st_arr hts (ty := .boolean) (tb2 63 _ rfl) (fun n h => by cases h)
  obtain ⟨c3, h3⟩ := st_arr hts (ty := .long) (tb8 6 _ rfl) (fun n h => by cases h)
  obtain ⟨c4, h4⟩ := st_ao (n := "RopeFerry$Thing") (hts _ (tb1 46 _ rfl))
  obtain ⟨c5, h5⟩ := st_ai (hts _ (tb1 160 _ rfl) : (Cond.arrayOver (.array .int)).before args s = true)
  refine ⟨D, fun k => [c1, c1, c2, c3, c4, c5].getD k c1, hD, fun k q hk => ?_⟩
  match k with
  | 0 => cases hk; exact h1
  | 1 => cases hk; exact h1
  | 2 => cases hk; exact h2
  | 3 => cases hk; exact h3
  | 4 => cases hk; exact h4
  | 5 => cases hk; exact h5
  | k + 6 => cases hk
end Start
