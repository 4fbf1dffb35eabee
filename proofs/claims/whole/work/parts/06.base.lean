/-! memory, worlds, and the judgement XG: a walk over a world that is told by a function of numbers -/
abbrev Mem : Type := Nat → Nat → Int32
def wr (M : Mem) (r i : Nat) (v : Int32) : Mem := fun r' i' => if r' = r ∧ i' = i then v else M r' i'
/-- kinds of regions, codes of fields, how many regions, where the first lies -/
abbrev WD : Type := (Nat → Nat × Nat) × (Nat → Nat → Nat) × Nat × Nat
/-- class and slots; array classes by kind; things' addresses; strings' addresses; their bytes'; the array of things' -/
abbrev GG : Type := va_G × (Nat → ClassId) × (Nat → Nat) × (Nat → Nat) × (Nat → Nat) × Nat
def en_f (b c : Nat) (x : Int32) : Value := match c with
  | 0 => .int x
  | 1 => .null
  | r + 2 => .ref (b + r)
def nfld (ci : Nat) : Nat := match vwCl[ci]? with
  | some q => q.2.2
  | none => 0
def ths (g : GG) (x : Int32) : Option Nat := match x.toNatClampNeg % 30 with
  | 0 => none
  | k + 1 => some (g.2.2.1 k)
def flds (w : WD) (r ci : Nat) (z : Nat → Int32) : List Value := (List.range (nfld ci)).map (fun k => en_f w.2.2.2 (w.2.1 r k) (z k))
def entk (g : GG) (w : WD) (r t n : Nat) (z : Nat → Int32) : va_E := match t with
  | 0 => .inr (n, flds w r n z)
  | 1 => .inl (g.2.1 1, n, .inl z)
  | 2 => .inl (g.2.1 2, n, .inl z)
  | 3 => .inl (g.2.1 3, n, .inr (.inl (fun i => (z i).toInt64)))
  | 4 => .inl (g.2.1 4, n, .inr (.inr (.inr (.inr (fun i => ths g (z i))))))
  | _ => .inl (g.2.1 5, n, .inr (.inr (.inr (.inr (fun i => some (w.2.2.2 + (r + 1 + i)))))))
def ent (g : GG) (w : WD) (M : Mem) (r : Nat) : va_E := entk g w r (w.1 r).1 (w.1 r).2 (M r)
def wld (g : GG) (w : WD) (M : Mem) : va_W := (List.range w.2.2.1).map (fun r => (w.2.2.2 + r, ent g w M r))
theorem wld_at {g : GG} {w : WD} {M : Mem} {r : Nat} (h : r < w.2.2.1) : (wld g w M)[r]? = some (w.2.2.2 + r, ent g w M r) := by
  unfold wld
  rw [List.getElem?_map, List.getElem?_range h]
  rfl
theorem wld_in {g : GG} {w : WD} {M : Mem} {k : Nat} {q : Nat × va_E} (h : (wld g w M)[k]? = some q) : k < w.2.2.1 ∧ q = (w.2.2.2 + k, ent g w M k) := by
  have hk : k < w.2.2.1 := by
    have := (List.getElem?_eq_some_iff.mp h).1
    simpa [wld] using this
  rw [wld_at hk] at h
  exact ⟨hk, (Option.some.inj h).symm⟩
theorem wld_k {g : GG} {w : WD} {M : Mem} {r t n : Nat} (h : r < w.2.2.1) (hk : w.1 r = (t, n)) : (wld g w M)[r]? = some (w.2.2.2 + r, entk g w r t n (M r)) := by
  rw [wld_at h]
  unfold ent
  rw [hk]
/-- what a method may change: the world's cells, and new ones -/
def AA (w : WD) (sz : Nat) : Nat → Prop := fun q => (∃ r, r < w.2.2.1 ∧ q = w.2.2.2 + r) ∨ sz ≤ q
theorem wld_D {g : GG} {w : WD} {M : Mem} {sz : Nat} : va_D (AA w sz) (wld g w M) := by
  refine ⟨fun i j p q hi hj h => ?_, fun k q h => ?_⟩
  · obtain ⟨_, rfl⟩ := wld_in hi
    obtain ⟨_, rfl⟩ := wld_in hj
    have h9 : w.2.2.2 + i = w.2.2.2 + j := h
    omega
  · obtain ⟨h1, rfl⟩ := wld_in h
    exact Or.inl ⟨k, h1, rfl⟩
theorem wld_set {g : GG} {w : WD} {M : Mem} {r i t n : Nat} {v : Int32} {e : va_E} (hk : w.1 r = (t, n)) (he : e = entk g w r t n (fun j => if j = i then v else M r j)) : (wld g w M).set r (w.2.2.2 + r, e) = wld g w (wr M r i v) := by
  apply List.ext_getElem?
  intro k
  by_cases hkr : k = r
  · subst hkr
    by_cases hl : k < w.2.2.1
    · rw [List.getElem?_set_self (by simpa [wld] using hl), wld_at hl]
      subst he
      unfold ent
      rw [hk]
      refine congrArg some (congrArg (Prod.mk _) (congrArg (entk g w k t n) (funext fun j => ?_)))
      simp [wr]
    · rw [List.getElem?_eq_none (by simp [wld]; omega), List.getElem?_eq_none (by simp [wld]; omega)]
  · rw [List.getElem?_set_ne (Ne.symm hkr)]
    by_cases hl : k < w.2.2.1
    · rw [wld_at hl, wld_at hl]
      unfold ent
      refine congrArg some (congrArg (Prod.mk _) (congrArg (entk g w k _ _) (funext fun j => ?_)))
      simp [wr, hkr]
    · rw [List.getElem?_eq_none (by simp [wld]; omega), List.getElem?_eq_none (by simp [wld]; omega)]
theorem flds_set {w : WD} {r ci k : Nat} {z : Nat → Int32} {v : Int32} (hc : w.2.1 r k = 0) : (flds w r ci z).set k (.int v) = flds w r ci (fun j => if j = k then v else z j) := by
  apply List.ext_getElem?
  intro j
  unfold flds
  by_cases hj : j = k
  · subst hj
    by_cases hl : j < nfld ci
    · rw [List.getElem?_set_self (by simpa using hl), List.getElem?_map, List.getElem?_range hl]
      simp [hc, en_f]
    · rw [List.getElem?_eq_none (by simp; omega), List.getElem?_eq_none (by simp; omega)]
  · rw [List.getElem?_set_ne (Ne.symm hj)]
    by_cases hl : j < nfld ci
    · rw [List.getElem?_map, List.getElem?_range hl, List.getElem?_map, List.getElem?_range hl]
      simp [hj]
    · rw [List.getElem?_eq_none (by simp; omega), List.getElem?_eq_none (by simp; omega)]
theorem flds_at {w : WD} {r ci k : Nat} {z : Nat → Int32} (hl : k < nfld ci) : (flds w r ci z)[k]? = some (en_f w.2.2.2 (w.2.1 r k) (z k)) := by
  unfold flds
  rw [List.getElem?_map, List.getElem?_range hl]
  rfl
/-- array classes -/
def tysOf (g : GG) : List (ClassId × FieldType) := [(g.2.1 0, .int), (g.2.1 1, .int), (g.2.1 2, .boolean), (g.2.1 3, .long), (g.2.1 4, .object "RopeFerry$Thing"), (g.2.1 5, .array .int)]
def thNm : List String := ["END", "NUMBER", "WRONG", "PERSON", "BEAST", "GOODS", "LAME", "SWIMS", "ROPE", "BOAT", "WIDE", "STREAM", "APART", "UNLESS", "WITH", "IF", "OR", "AND", "NOT", "WAITED", "WEIGHT", "QUEUE", "MINUTE", "NEXT_LINE", "OPEN", "CLOSE", "LESS", "MORE", "PLUS"]
/-- the code of a thing's text -/
def stx (k : Nat) : Nat := ([31, 31, 31, 32, 33, 34, 35, 36, 41, 42, 43, 40, 37, 38, 39, 45, 57, 56, 46, 49, 50, 51, 52, 44, 47, 48, 54, 55, 53] : List Nat).getD k 0
def mkF (q : String × Nat × String × String × String × String) : Cond := .fieldLinkNest q.1 q.2.1 q.2.2.1 q.2.2.2.1 q.2.2.2.2.1 q.2.2.2.2.2
def mkM (q : String × Nat × MethodName × String) : Cond := .methodLinkNest q.1 q.2.1 q.2.2.1 q.2.2.2
/-- the exceptions, by their numbers; which are no subclasses of which -/
def exL : List String := ["java/lang/IllegalArgumentException", "java/lang/UnsupportedOperationException", "java/lang/IndexOutOfBoundsException", "java/util/NoSuchElementException", "java/lang/IllegalStateException"]
def dclL : List MethodName := [⟨"java/lang/RuntimeException", "<init>", "()V"⟩, ⟨"java/lang/RuntimeException", "<init>", "(Ljava/lang/String;)V"⟩, ⟨"java/lang/Exception", "<init>", "()V"⟩, ⟨"java/lang/Exception", "<init>", "(Ljava/lang/String;)V"⟩, ⟨"java/lang/Throwable", "<init>", "()V"⟩, ⟨"java/lang/Throwable", "<init>", "(Ljava/lang/String;)V"⟩]
def ncL : List (String × String) := [("java/lang/UnsupportedOperationException", "java/lang/IllegalArgumentException"), ("java/util/NoSuchElementException", "java/lang/IndexOutOfBoundsException"), ("java/lang/IllegalStateException", "java/lang/IndexOutOfBoundsException"), ("java/util/NoSuchElementException", "java/lang/IllegalArgumentException")]
/-- what the tables say of the classes, the links between nest mates, the String constants, the exceptions -/
def KK (g : GG) (U : State) : Prop := va_K g.1 vwCl (tysOf g) U ∧ (∀ q ∈ nstF, va_Nw (mkF q) U) ∧ (∀ q ∈ nstM, va_Nw (mkM q) U) ∧ (∀ (i : Nat) (q : String × Nat × String), strT[i]? = some q → vk_R q.1 q.2.1 q.2.2 (g.2.2.2.1 i) U) ∧ (∀ c ∈ exL, va_Nw (.castable c c) U) ∧ (∀ y ∈ dclL, va_Nw (.declares y) U) ∧ ∀ q ∈ ncL, va_Nc q.1 q.2 U
theorem KK.warm {g : GG} {s U : State} (hW : s.WarmedH U.vm) (h : KK g s) : KK g U :=
  ⟨va_K.moved hW.alike h.1, fun q hq => va_Nw.warmF hW (h.2.1 q hq), fun q hq => va_Nw.warmM hW (h.2.2.1 q hq), fun i q hq => vk_R.warm hW (h.2.2.2.1 i q hq), fun c hc => va_Nw.warmC hW (h.2.2.2.2.1 c hc), fun y hy => va_Nw.warmD hW (h.2.2.2.2.2.1 y hy), fun q hq => va_Nc.moved hW.alike (h.2.2.2.2.2.2 q hq)⟩
theorem KK.same {g : GG} {u U : State} (h0 : U.vm = u.vm) (h : KK g u) : KK g U :=
  ⟨va_K.moved (by rw [h0]; exact Vm.Alike.refl _) h.1, fun q hq => va_Nw.same rfl h0.symm (h.2.1 q hq), fun q hq => va_Nw.same rfl h0.symm (h.2.2.1 q hq), fun i q hq => vk_R.same h0 (h.2.2.2.1 i q hq), fun c hc => va_Nw.same rfl h0.symm (h.2.2.2.2.1 c hc), fun y hy => va_Nw.same rfl h0.symm (h.2.2.2.2.2.1 y hy), fun q hq => va_Nc.moved (by rw [h0]; exact Vm.Alike.refl _) (h.2.2.2.2.2.2 q hq)⟩
/-- objects that nobody writes: the things, the array of them, the Strings -/
def Im (g : GG) (A : Nat → Prop) (U : State) (H : Heap) : Prop :=
  va_En "RopeFerry$Thing" "LRopeFerry$Thing;" thNm [] g.2.2.1 A U H ∧
  (∀ k : Nat, k < 29 → va_OF "RopeFerry$Thing" "text" "Ljava/lang/String;" (.ref (g.2.2.2.1 (stx k))) (g.2.2.1 k) A U H) ∧
  (va_Z "RopeFerry$Thing" "ALL" "[LRopeFerry$Thing;" (.ref g.2.2.2.2.2) A U H ∧ va_T (.object "RopeFerry$Thing") g.2.2.2.2.2 29 (fun j => .ref (g.2.2.1 j)) A U H) ∧
  (∀ i : Nat, i < 58 → va_O "java/lang/String" (g.2.2.2.1 i) A U H ∧ va_OF "java/lang/String" "coder" "B" (.int 0) (g.2.2.2.1 i) A U H ∧ va_OF "java/lang/String" "value" "[B" (.ref (g.2.2.2.2.1 i)) (g.2.2.2.1 i) A U H ∧ va_T .byte (g.2.2.2.2.1 i) (strB.getD i []).length (fun j => .int ((strB.getD i []).getD j 0)) A U H) ∧
  va_Z "java/lang/String" "COMPACT_STRINGS" "Z" (.int 1) A U H ∧
  (∃ v : Value, (v = .null ∨ ∃ a, v = .ref a) ∧ va_Z "jdk/internal/util/Preconditions" "SIOOBE_FORMATTER" "Ljava/util/function/BiFunction;" v A U H) ∧
  vx_Zq Bundle.tN "UNASSIGNED_STACK" Bundle.steD A U H ∧ vx_Zq Bundle.tN "SUPPRESSED_SENTINEL" Bundle.listD A U H
theorem Im.moved {g : GG} {A : Nat → Prop} {u U : State} {H : Heap} (hvm : u.vm.Alike U.vm) (h : Im g A u H) : Im g A U H := by
  obtain ⟨h1, h2, ⟨h3, h4⟩, h5, h6, ⟨v, hv, h7⟩, h8, h9⟩ := h
  exact ⟨h1.moved hvm, fun k hk => (h2 k hk).moved hvm, ⟨h3.moved hvm, h4.moved hvm⟩, fun i hi => ⟨(h5 i hi).1.moved hvm, (h5 i hi).2.1.moved hvm, (h5 i hi).2.2.1.moved hvm, (h5 i hi).2.2.2.moved hvm⟩, h6.moved hvm, ⟨v, hv, h7.moved hvm⟩, h8.moved hvm, h9.moved hvm⟩
theorem Im.kept {g : GG} {A : Nat → Prop} {U : State} {H H1 : Heap} (h : Im g A U H) (hq : ∀ a : Nat, a < H.size → ¬ A a → H1[a]? = H[a]?) : Im g A U H1 := by
  obtain ⟨h1, h2, ⟨h3, h4⟩, h5, h6, ⟨v, hv, h7⟩, h8, h9⟩ := h
  exact ⟨h1.kept hq, fun k hk => (h2 k hk).kept hq, ⟨h3.kept hq, h4.kept hq⟩, fun i hi => ⟨(h5 i hi).1.kept hq, (h5 i hi).2.1.kept hq, (h5 i hi).2.2.1.kept hq, (h5 i hi).2.2.2.kept hq⟩, h6.kept hq, ⟨v, hv, h7.kept hq⟩, h8.kept hq, h9.kept hq⟩
theorem Im.narrow {g : GG} {A B : Nat → Prop} {U : State} {H : Heap} (h : Im g A U H) (hAB : ∀ q, B q → A q) : Im g B U H := by
  obtain ⟨h1, h2, ⟨h3, h4⟩, h5, h6, ⟨v, hv, h7⟩, h8, h9⟩ := h
  exact ⟨h1.narrow hAB, fun k hk => (h2 k hk).narrow hAB, ⟨h3.narrow hAB, h4.narrow hAB⟩, fun i hi => ⟨(h5 i hi).1.narrow hAB, (h5 i hi).2.1.narrow hAB, (h5 i hi).2.2.1.narrow hAB, (h5 i hi).2.2.2.narrow hAB⟩, h6.narrow hAB, ⟨v, hv, h7.narrow hAB⟩, h8.narrow hAB, h9.narrow hAB⟩
/-- locals by their places -/
def lh (ls : Array Slot) (nL : Nat) (L : List (Option Value)) : Prop := ls.size = nL ∧ lv_wf ls ∧ L.length = nL ∧ ∀ (i : Nat) (v : Value), L[i]? = some (some v) → v.category = 1 ∧ ls[i]? = some (.val v)
def lpl (L : List (Option Value)) : List (Nat × Value) := (List.range L.length).filterMap (fun i => (L[i]?.join).map (fun v => (i, v)))
theorem lpl_mem {L : List (Option Value)} {i : Nat} {v : Value} : (i, v) ∈ lpl L ↔ L[i]? = some (some v) := by
  unfold lpl
  simp only [List.mem_filterMap, List.mem_range, Option.map_eq_some_iff, Prod.mk.injEq]
  constructor
  · rintro ⟨j, -, a, h1, rfl, rfl⟩
    cases hj : L[j]? with
    | none => rw [hj] at h1; cases h1
    | some o =>
      rw [hj] at h1
      exact congrArg some h1
  · intro h
    exact ⟨i, (List.getElem?_eq_some_iff.mp h).1, v, by rw [h]; rfl, rfl, rfl⟩
theorem lh.has {ls : Array Slot} {nL : Nat} {L : List (Option Value)} (h : lh ls nL L) : lv_has ls nL (lpl L) :=
  ⟨h.1, h.2.1, fun q hq => (h.2.2.2 q.1 q.2 (lpl_mem.mp hq)).2⟩
theorem lh.at {ls : Array Slot} {nL : Nat} {L : List (Option Value)} {i : Nat} {v : Value} (h : lh ls nL L) (hi : L[i]? = some (some v)) : ls[i]? = some (.val v) := (h.2.2.2 i v hi).2
theorem lh.lt {ls : Array Slot} {nL : Nat} {L : List (Option Value)} {i : Nat} {v : Option Value} (h : lh ls nL L) (hi : L[i]? = some v) : i < nL := by
  rw [← h.2.2.1]
  exact (List.getElem?_eq_some_iff.mp hi).1
theorem lh.st {ls ls' : Array Slot} {nL : Nat} {L L' : List (Option Value)} {i : Nat} {v : Value} (h : lh ls nL L) (hi : i < nL) (hc : v.category = 1) (h' : lv_has ls' nL ((i, v) :: (lpl L).filter (fun q => !(q.1 == i) && !(q.1 + 1 == i && q.2.category == 2)))) (hL : L.set i (some v) = L') : lh ls' nL L' := by
  subst hL
  have hil : i < L.length := by rw [h.2.2.1]; exact hi
  refine ⟨h'.1, h'.2.1, by rw [List.length_set]; exact h.2.2.1, fun j u hj => ?_⟩
  by_cases hji : j = i
  · subst hji
    rw [List.getElem?_set_self hil] at hj
    cases hj
    exact ⟨hc, h'.2.2 _ List.mem_cons_self⟩
  · rw [List.getElem?_set_ne (Ne.symm hji)] at hj
    have hu := (h.2.2.2 j u hj).1
    refine ⟨hu, h'.2.2 (j, u) (List.mem_cons_of_mem _ (List.mem_filter.mpr ⟨lpl_mem.mpr hj, ?_⟩))⟩
    simp [hji, hu]
/-- fewer locals told -/
def lwk : List (Option Value) → List (Option Value) → Prop
  | [], [] => True
  | _ :: as, none :: bs => lwk as bs
  | a :: as, some b :: bs => a = some b ∧ lwk as bs
  | _, _ => False
theorem lwk_at : ∀ {L L' : List (Option Value)}, lwk L L' → L'.length = L.length ∧ ∀ (i : Nat) (v : Value), L'[i]? = some (some v) → L[i]? = some (some v)
  | [], [], _ => ⟨rfl, fun i v h => by simp at h⟩
  | a :: as, none :: bs, h => by
    obtain ⟨h1, h2⟩ := lwk_at (L := as) (L' := bs) h
    refine ⟨by simp [h1], fun i v hi => ?_⟩
    cases i with
    | zero => simp at hi
    | succ i => simpa using h2 i v (by simpa using hi)
  | a :: as, some b :: bs, h => by
    obtain ⟨rfl, h0⟩ := h
    obtain ⟨h1, h2⟩ := lwk_at (L := as) (L' := bs) h0
    refine ⟨by simp [h1], fun i v hi => ?_⟩
    cases i with
    | zero => simpa using hi
    | succ i => simpa using h2 i v (by simpa using hi)
  | [], _ :: _, h => by simp [lwk] at h
  | _ :: _, [], h => by simp [lwk] at h
theorem lh.wk {ls : Array Slot} {nL : Nat} {L L' : List (Option Value)} (h : lh ls nL L) (hw : lwk L L') : lh ls nL L' := by
  obtain ⟨h1, h2⟩ := lwk_at hw
  exact ⟨h.1, h.2.1, h1.trans h.2.2.1, fun i v hi => h.2.2.2 i v (h2 i v hi)⟩
