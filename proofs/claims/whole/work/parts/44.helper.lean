/-! the law's helpers: they call, and catch -/
def wsH (y : MethodName) (cc : ByteArray) (nL : Nat) (hh : List (Nat × Nat × Nat × Nat)) : List Cond := .codeWith y cc nL (some .int) hh :: Tg
def XF : String → State → State → Prop := fun _ _ _ => False
/-- a helper's contract: what it answers, what it leaves -/
def CH (l : Launch) (g : GG) (w : WD) (rm : Room) (y : MethodName) (cc : ByteArray) (nL : Nat) (hh : List (Nat × Nat × Nat × Nat)) (av : List Value) (M : Mem) (O : Option (Int32 × Mem)) : Prop :=
  ∀ (sz : Nat) (a : Int32 × Mem), O = some a → Met l y (wsH y cc nL hh) rm (va_Pc av (PF g w M sz)) (QF g w (some (.int a.1), a.2)) 1 6 (AA w sz)
def ZH (z : ZT) (g : GG) (w : WD) : Int32 × Mem → State → Prop := fun a => vx_MQ (zb z) (QF g w (some (.int a.1), a.2)) XF (za z) (zs z) 1 6 (AA w (zs z).heap.size)
theorem CH.of {l : Launch} {g : GG} {w : WD} {rm : Room} {y : MethodName} {cc : ByteArray} {nL : Nat} {hh : List (Nat × Nat × Nat × Nat)} {av : List Value} {M : Mem} {O : Option (Int32 × Mem)}
    (hy : plainName y.cls = true) (hn : av.length ≤ nL) (hc : ∀ v ∈ av, v.category = 1)
    (body : ∀ z : ZT, Cx z l g w rm cc nL y.cls (some .int) → (zc z).exceptionTable.toList = tableOf hh → XG z g w nL (ZH z g w) 0 0 0 (av.map some ++ List.replicate (nL - av.length) none) [] M O) : CH l g w rm y cc nL hh av M O := by
  intro sz a ha
  have h : vx_Met l y (wsH y cc nL hh) rm (va_Pc av (PF g w M sz)) (QF g w (some (.int a.1), a.2)) XF 1 6 (AA w sz) := by
    refine vx_ofWH (cc := cc) (maxL := nL) (ret := some .int) (hh := hh) hy rfl ?_
    intro p e s m args below meth c s₁ B hml hP
    obtain ⟨rfl, hsz, hP, hK, hI, hle⟩ := hP
    subst hsz
    have hts := atoms_spec (ws := wsH y cc nL hh) B.pre
    have hX := body (p, l, e, rm, s, m, av.toArray, below, meth, c) ⟨B.exec, B.bytes, hml, findClass_of_methodNamed B.named, B.returns, B.notSynchronized, fun w hw hg => hts w (List.mem_cons_of_mem _ (Tg_in hw hg)), hK, hI, hle, rfl, rfl⟩ (vx_table (x := y) B (hts _ List.mem_cons_self)) a ha s.heap [] _ (lh_entry av hn hc) hP va_S.rf
    rw [lg_entry_eq]
    exact hX
  intro p e had hc hk s m args below hf1 hap hp _
  obtain ⟨n, oc, h1, h2, h3, h4⟩ := h p e had hc hk s m args below hf1 hap hp trivial
  rcases h4 with h4 | ⟨q, hq, E, ce, L, hX, -⟩
  · exact ⟨n, oc, h1, h2, h3, h4⟩
  · exact absurd hX id
section Rows
variable {α : Type} {z : ZT} {l : Launch} {g : GG} {w : WD} {R : Room} {cc : ByteArray} {nL : Nat} {own : String} {ret : Option FieldType} {Qs : α → State → Prop} {pc : Nat} {L L' : List (Option Value)} {st : List Value} {M : Mem} {O : Option α}
/-- an exception of class E stands at pc -/
def XH (z : ZT) (g : GG) (w : WD) (nL : Nat) (Qs : α → State → Prop) (pc : Nat) (L : List (Option Value)) (st : List Value) (M : Mem) (O : Option α) (E : String) : Prop :=
  ∀ a, O = some a → ∀ (H : Heap) (locs : List Loc) (ls : Array Slot) (q : Addr) (ce : Cell), lh ls nL L → va_P g.1 vwCl (wld g w M) H → va_S (AA w (zs z).heap.size) (zs z).heap H locs → H[q]? = some ce → ce.vm = .none → (zs z).vm.findClass E = some ce.cls →
    vx_W (zp z) (zl z) (ze z) (zR z) (zs z) (zm z) (za z) (zb z) (zt z) (zc z) H locs 1 6 (Qs a) (F0 (zm z) pc ls st) q
theorem x_callX {O1 : Option XR} {K : XR → Option α} (C : Cx z l g w R cc nL own ret) {y : MethodName} {bytes : ByteArray} {mL nA idx d1 : Nat} {ry : Option FieldType} {As : List Value} {a : Nat} {st0 : List Value}
    (hM : CX l g w (rmx d1) y bytes mL ry (.ref a :: As) M O1) (lk : LkV own idx y bytes mL ry nA)
    (hv : ∀ H : Heap, va_P g.1 vwCl (wld g w M) H → ∀ locs, va_S (AA w (zs z).heap.size) (zs z).heap H locs → ∃ cellB : Cell, H[a]? = some cellB ∧ cellB.vm.isStatics = false ∧ (zs z).vm.findClass y.cls = some cellB.cls)
    (hn : As.length = nA) (hst : st0 = As.reverse ++ .ref a :: st) (hW : (st.map fun v => v.category).sum ≤ 8) (hrm : d1 + 1 ≤ R.frames ∧ 8 + (mL + 11) + 64 * d1 ≤ R.locals) (hkn : 1 ≤ R.cells ∧ 6 ≤ R.slots) (d : decode cc pc = .ok (.invokevirtual idx, 3))
    (kk : ∀ b, O1 = some b → b.1 = 0 → XG z g w nL Qs 1 6 (pc + 3) L (.int b.2.1 :: st) b.2.2 (K b))
    (kx : ∀ b, O1 = some b → ¬ b.1 = 0 → XH z g w nL Qs pc L st b.2.2 (K b) (exN b.1)) : XG z g w nL Qs 0 0 pc L st0 M (O1.bind K) := by
  obtain ⟨w1, w2, w3, w4, w5, w6, w7⟩ := lk
  have hl := C.2.2.2.2.2.2.2.2.2.2.2
  have hR := C.2.2.2.2.2.2.2.2.2.2.1
  intro a9 ha H locs ls hlh hP hS
  cases hO : O1 with
  | none => rw [hO] at ha; cases ha
  | some b =>
    rw [hO] at ha
    have ha : K b = some a9 := ha
    have hr := vx_runV (p := zp z) (l := zl z) (e := ze z) (R := zR z) (s := zs z) (m := zm z) (args := za z) (below := zb z) (meth := zt z) (c := zc z) (H := H) (rm := rmx d1) (Qc := QX g w b) (XC := XX g w b) (mc := 1) (ms := 6) (free := AA w H.size) (y := y) (C := y.cls) (As := As) (rest := st) (index := idx) (nL := nL) (n := nA) (g := F0 (zm z) pc ls st0) (cells := 0) (slots := 0) (locs := locs) ⟨C.1, C.2.1, C.2.2.1, C.2.2.2.1, x_htg C⟩ (by rw [hl]; exact hM H.size b hO) ⟨callB_of nA (x_htg C) (wsy_good w1) rfl rfl rfl (x_hts C w2 rfl) (x_hts C w3 rfl) ⟨w6.1, w6.2, w7⟩ (by rw [hR]; exact ⟨hrm.1, hrm.2⟩), x_hts C w4 rfl, x_hts C w5 rfl⟩ ⟨PF_blind, hv H hP locs hS, fun U hU hWm => ⟨rfl, PF_of C hP hS hU hWm⟩⟩ rfl hn hlh.1 hst (by show 2 * 0 + _ ≤ 8; omega) d (by rw [hR]; exact ⟨by omega, by omega⟩)
    have keep : ∀ (st₀ t T' : State) (Ls : List Loc), st₀.heap = H → va_F (AA w st₀.heap.size) st₀ t → T'.heap = t.heap → (∀ q ∈ Ls, AA w H.size q.base) → va_S (AA w (zs z).heap.size) (zs z).heap T'.heap (locs ++ Ls) := by
      intro st₀ t T' Ls h0 hF e1 hL
      obtain ⟨hz, hk⟩ := hF
      rw [h0] at hz hk
      refine ⟨Nat.le_trans hS.1 (by rw [e1]; exact hz), fun q h1 h2 => ?_, fun q hq => ?_⟩
      · rw [e1, hk q (Nat.lt_of_lt_of_le h1 hS.1) (fun y => h2 (AA_sub hS.1 q y))]
        exact hS.2.1 q h1 h2
      · rcases List.mem_append.mp hq with h | h
        · exact hS.2.2 q h
        · exact AA_sub hS.1 _ (hL q h)
    intro T hT X
    rcases hr T hT X with ⟨v, st₀, t, T', Ls, h0, X', hL, e1, e2, ⟨hb0, hv1, hp, hF⟩, step⟩ | ⟨q, st₀, t, T', Ls, E, ce, h0, X', hL, e1, e2, ⟨hb0, hE, hp, hF⟩, hce, hcv, hcl, step⟩
    · have hv' : v = some (.int b.2.1) := Outcome.returned.inj hv1
      subst hv'
      obtain ⟨t2, a1, b1⟩ := kk b hO hb0 a9 ha T'.heap (locs ++ Ls) ls hlh (by rw [e1]; exact hp) (keep st₀ t T' Ls h0 hF e1 hL) T' rfl X'
      exact ⟨t2, step t2 a1, b1⟩
    · subst hE
      obtain ⟨t2, a1, b1⟩ := kx b hO hb0 a9 ha T'.heap (locs ++ Ls) ls q ce hlh (by rw [e1]; exact hp) (keep st₀ t T' Ls h0 hF e1 hL) (by rw [e1]; exact hce) hcv hcl T' rfl X'
      exact ⟨t2, step.trans a1, b1⟩
theorem x_catch {E : String} (C : Cx z l g w R cc nL own ret) (pre : List ExceptionTableEntry) (x : ExceptionTableEntry) (suf : List ExceptionTableEntry) (ht : (zc z).exceptionTable.toList = pre ++ x :: suf)
    (hpass : ∀ y ∈ pre, covers y pc = false ∨ (y.catchType ≠ 0 ∧ ∃ nm : String, Cond.classLink own y.catchType nm ∈ lw_tbl ∧ (E, nm) ∈ ncL)) (hx : covers x pc = true) (h0 : x.catchType ≠ 0) (hl : Cond.classLink own x.catchType E ∈ lw_tbl) (hE : E ∈ exL)
    (kk : ∀ q : Nat, XG z g w nL Qs 1 6 x.handlerPc L [.ref q] M O) : XH z g w nL Qs pc L st M O E := by
  intro a ha H locs ls q ce hlh hP hS hq hv hcl
  refine vx_catch C.2.2.2.1 pre x suf ht (fun y hy => ?_) hx h0 (x_hts C hl rfl) (va_Nw.use rfl (C.2.2.2.2.2.2.2.1.2.2.2.2.1 E hE)) hq hv hcl (kk q a ha H locs ls hlh hP hS)
  rcases hpass y hy with h | ⟨h1, nm, h2, h3⟩
  · exact Or.inl h
  · exact Or.inr ⟨h1, nm, x_hts C h2 rfl, C.2.2.2.2.2.2.2.1.2.2.2.2.2.2 (E, nm) h3⟩
theorem x_hret (C : Cx z l g w R cc nL own (some .int)) {v : Int32} (d : decode cc pc = .ok (.ireturn, 1)) : XG z g w nL (ZH z g w) 1 6 pc L [.int v] M (some (v, M)) := by
  intro a' ha H locs ls hl hP hS
  cases ha
  exact vx_ret (W.iret C.1 C.2.1 C.2.2.2.2.1 (fun t ht _ => ⟨rfl, by rw [ht]; exact hP, hS.F ht⟩) hS.2.2 d C.2.2.2.2.2.1)
end Rows
