section Start
variable {args : Array Value} {s : State}
theorem st_ne {t1 t2 : Term} {a b : Nat} {o n d : String} {x y : Int32} (h1 : t1.eval args s none [] s = some (.ref a)) (h2 : t2.eval args s none [] s = some (.ref b)) (f1 : (Term.field t1 o n d).eval args s none [] s = some (.int x)) (f2 : (Term.field t2 o n d).eval args s none [] s = some (.int y)) (hxy : x ≠ y) : (Cond.not (.eq t1 t2)).before args s = true := by
  have hab : a ≠ b := by
    rintro rfl
    apply hxy
    have e : (Term.field t1 o n d).eval args s none [] s = (Term.field t2 o n d).eval args s none [] s := by simp only [Term.eval, h1, h2]
    rw [f1, f2] at e
    exact Value.int.inj (Option.some.inj e)
  simp [Cond.before, Cond.holds, Cond.value, h1, h2, hab]
abbrev tTm (i : Nat) : Term := .static "RopeFerry$Thing" (thNm.getD i "") "LRopeFerry$Thing;"
def tWs (i : Nat) : List Cond := [Cond.exactly (tTm i) "RopeFerry$Thing", Cond.eq (.field (tTm i) "java/lang/Enum" "ordinal" "I") (.int (Int32.ofNat i)), Cond.eq (.field (tTm i) "RopeFerry$Thing" "text" "Ljava/lang/String;") (sTm (stx i))]
def tPos : List Nat := [49, 50, 51, 4, 5, 6, 7, 8, 9, 52, 53, 54, 55, 56, 57, 58, 59, 60, 61, 62, 63, 64, 65, 66, 79, 80, 81, 82, 83, 84, 85, 86, 87, 76, 77, 78, 67, 68, 69, 70, 71, 72, 73, 74, 75, 93, 94, 95, 129, 130, 131, 126, 127, 128, 96, 97, 98, 105, 106, 107, 108, 109, 110, 111, 112, 113, 114, 115, 116, 88, 89, 90, 99, 100, 101, 102, 103, 104, 120, 121, 122, 123, 124, 125, 117, 118, 119]
theorem th_all : tPos.filterMap (fun i => nrw[i]?) = (List.range 29).flatMap tWs := by decide +kernel
theorem th_in {i : Nat} (hi : i < 29) {c : Cond} (h : c ∈ tWs i) : c ∈ nrw := by
  have h1 : c ∈ (List.range 29).flatMap tWs := List.mem_flatMap.mpr ⟨i, List.mem_range.mpr hi, h⟩
  rw [← th_all] at h1
  obtain ⟨k, -, hk⟩ := List.mem_filterMap.mp h1
  exact List.mem_of_getElem? hk
theorem th_lay : ∀ i, i < 29 → Cond.laysStatic "RopeFerry$Thing" (thNm.getD i "") "LRopeFerry$Thing;" ∈ lw_tbl := by decide +kernel
theorem th_ini : Cond.initialized "RopeFerry$Thing" ∈ lw_tbl := by decide +kernel
theorem st_th (hts : ∀ w ∈ lw_tbl, w.before args s = true) (hpre : (Jvm.Cond.and given_1 narrow_1).before args s = true) {A : Nat → Prop} (hA : ∀ a : Nat, a < s.heap.size → ¬ A a) : ∃ ad : Nat → Nat, va_En "RopeFerry$Thing" "LRopeFerry$Thing;" thNm [] ad A s s.heap ∧ ∀ i, i < 29 → (tTm i).eval args s none [] s = some (.ref (ad i)) := by
  have hf := flat_of_before _ hpre
  have hev : ∀ i, i < 29 → ∃ a, (tTm i).eval args s none [] s = some (.ref a) := by
    intro i hi
    obtain ⟨a, c, cA, kA, q1, -⟩ := Cond.exactly_spec (args := args) (first := s) (o := none) (s := s) (idx := []) (t := tTm i) (cls := "RopeFerry$Thing") (hf _ (th_in hi List.mem_cons_self))
    exact ⟨a, q1⟩
  refine va_Enof2 (fun i hi => hts _ (th_lay i hi)) (hts _ th_ini) (fun i hi => hf _ (th_in hi List.mem_cons_self)) (fun q hq => absurd hq List.not_mem_nil) (fun i j hi hj hij => Or.inl ?_) hA
  obtain ⟨a, ha⟩ := hev i hi
  obtain ⟨b, hb⟩ := hev j hj
  refine st_ne ha hb (va_eqt (hf _ (th_in hi (List.mem_cons_of_mem _ List.mem_cons_self)))) (va_eqt (hf _ (th_in hj (List.mem_cons_of_mem _ List.mem_cons_self)))) (fun h => hij ?_)
  have hi9 : i < 29 := hi
  have hj9 : j < 29 := hj
  have h2 : (Int32.ofNat i).toNatClampNeg = (Int32.ofNat j).toNatClampNeg := by rw [h]
  rw [nI_toClamp (len := 29) hi9 (by omega), nI_toClamp (len := 29) hj9 (by omega)] at h2
  exact h2
end Start
