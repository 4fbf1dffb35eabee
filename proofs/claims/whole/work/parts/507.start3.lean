section Start
variable {args : Array Value} {s : State}
abbrev aTm : Term := .static "RopeFerry$Thing" "ALL" "[LRopeFerry$Thing;"
def aWs : List Cond := [Cond.arrayOf aTm (.object "RopeFerry$Thing"), Cond.eq (.length aTm) (.int (Int32.ofNat 29)), Cond.eq (.static "java/lang/String" "COMPACT_STRINGS" "Z") (.int 1), Cond.isRef (.static "jdk/internal/util/Preconditions" "SIOOBE_FORMATTER" "Ljava/util/function/BiFunction;"), Cond.isRef (.static Bundle.tN "UNASSIGNED_STACK" Bundle.steD), Cond.isRef (.static Bundle.tN "SUPPRESSED_SENTINEL" Bundle.listD)] ++ (List.range 29).map (fun j => Cond.eq (.elem aTm (.int (Int32.ofNat j))) (tTm j))
def aPos : List Nat := [12, 13, 44, 45, 91, 92] ++ (List.range 29).map (fun j => j + 15)
theorem al_all : aPos.filterMap (fun i => nrw[i]?) = aWs := by decide +kernel
theorem al_in {c : Cond} (h : c ∈ aWs) : c ∈ nrw := by
  rw [← al_all] at h
  obtain ⟨k, -, hk⟩ := List.mem_filterMap.mp h
  exact List.mem_of_getElem? hk
theorem al_at (k : Nat) {c : Cond} (h : aWs[k]? = some c) : c ∈ nrw := al_in (List.mem_of_getElem? h)
theorem al_el (j : Nat) (hj : j < 29) : Cond.eq (.elem aTm (.int (Int32.ofNat j))) (tTm j) ∈ nrw := al_in (List.mem_append_right _ (List.mem_map.mpr ⟨j, List.mem_range.mpr hj, rfl⟩))
theorem st_Im (hts : ∀ w ∈ lw_tbl, w.before args s = true) (hpre : (Jvm.Cond.and given_1 narrow_1).before args s = true) : ∃ g : GG, KO g s ∧ Im g (AK s.heap.size) s s.heap := by
  have hA : ∀ a : Nat, a < s.heap.size → ¬ AK s.heap.size a := fun a h h2 => Nat.not_le.mpr h h2
  have hf := flat_of_before _ hpre
  obtain ⟨D, tc, hK⟩ := st_K hts
  obtain ⟨f, v, hS⟩ := st_str2 hts hpre hA
  obtain ⟨ad, hE, hT⟩ := st_th hts hpre hA
  obtain ⟨r1, r2, r3, r4, r5, r6, r7⟩ := st_rest hts hpre
  obtain ⟨t, a1, a2⟩ := va_Tof (A := AK s.heap.size) (f := fun j => .ref (ad j)) (N := 29) (by decide) (hf _ (al_at 0 rfl)) (va_eqt (hf _ (al_at 1 rfl))) (fun j hj => Cond.eq_refs (hf _ (al_el j hj)) (hT j hj) rfl) hA
  refine ⟨(D, tc, ad, f, v, t), ⟨⟨hK, r1, r2, fun i q hq => ?_, r3, r4, r5⟩, r6, r7⟩, hE, fun k hk => ?_, ⟨va_Zof (hts _ (tb3 225 _ rfl)) (hts _ th_ini) a1 hA, a2⟩, fun i hi => ?_, va_Zof (hts _ (tb3 239 _ rfl)) (hts _ (tb1 17 _ rfl)) (va_eqt (hf _ (al_at 2 rfl))) hA, ?_, vx_Zqof (hts _ (tb4 177 _ rfl)) (hts _ (tb1 22 _ rfl)) (hf _ (al_at 4 rfl)) hA, vx_Zqof (hts _ (tb4 179 _ rfl)) (hts _ (tb1 22 _ rfl)) (hf _ (al_at 5 rfl)) hA⟩
  · have hi : i < 58 := by
      have h1 := (List.getElem?_eq_some_iff.mp hq).1
      have h2 : strT.length = 58 := by decide +kernel
      omega
    have h3 := (hS i hi).2.1
    rw [show strT.getD i ("", 0, "") = q by rw [List.getD_eq_getElem?_getD, hq]; rfl] at h3
    exact h3
  · have hx : ∀ k, k < 29 → stx k < 58 := by decide +kernel
    exact vk_OFof (hT k hk) (Cond.eq_refs (hf _ (th_in hk (List.mem_cons_of_mem _ (List.mem_cons_of_mem _ List.mem_cons_self)))) (hS (stx k) (hx k hk)).1 rfl) hA
  · exact (hS i hi).2.2
  · rcases va_Zqof (hts _ (tb4 15 _ rfl)) (hts _ (tb1 19 _ rfl)) (hf _ (al_at 3 rfl)) hA with h | ⟨a, h⟩
    · exact ⟨.null, Or.inl rfl, h⟩
    · exact ⟨.ref a, Or.inr ⟨a, rfl⟩, h⟩
end Start
