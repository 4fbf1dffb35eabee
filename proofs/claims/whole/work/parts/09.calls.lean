/-! contracts, calls, ends -/
def PF (g : GG) (w : WD) (M : Mem) (sz : Nat) : State → Prop := fun U => U.heap.size = sz ∧ va_P g.1 vwCl (wld g w M) U.heap ∧ KK g U ∧ Im g (AA w sz) U U.heap ∧ w.2.2.2 + w.2.2.1 ≤ sz
def QF (g : GG) (w : WD) (x : Option Value × Mem) : Array Value → State → Outcome → State → Prop := fun _ st oc t => oc = .returned x.1 ∧ va_P g.1 vwCl (wld g w x.2) t.heap ∧ va_F (AA w st.heap.size) st t
def wsy (y : MethodName) (cc : ByteArray) (nL : Nat) (ret : Option FieldType) : List Cond := .code y cc nL ret :: Tg
/-- the room of a method above which d others may stand -/
def rmd (d : Nat) : Room := { frames := d, cells := 0, slots := 0, locals := 64 * d }
def CT {α : Type} (l : Launch) (g : GG) (w : WD) (rm : Room) (y : MethodName) (cc : ByteArray) (nL : Nat) (ret : Option FieldType) (av : List Value) (M : Mem) (fin : α → Option Value × Mem) (O : Option α) : Prop :=
  ∀ (sz : Nat) (a : α), O = some a → Met l y (wsy y cc nL ret) rm (va_Pc av (PF g w M sz)) (QF g w (fin a)) 0 0 (AA w sz)
/-- where a method's walk is to end -/
def ZQ {α : Type} (z : ZT) (g : GG) (w : WD) (fin : α → Option Value × Mem) : α → State → Prop := fun a => MQ (zb z) (QF g w (fin a)) (za z) (zs z) 0 0 (AA w (zs z).heap.size)
theorem lv_args_at : ∀ (av : List Value) (j : Nat), (∀ v ∈ av, v.category = 1) → ∀ (i : Nat) (v : Value), av[i]? = some v → (j + i, v) ∈ lv_args j av
  | [], _, _, i, v, h => by simp at h
  | a :: av, j, hc, i, v, h => by
    have ha : a.category = 1 := hc a List.mem_cons_self
    cases i with
    | zero =>
      have : a = v := by simpa using h
      subst this
      exact List.mem_cons_self
    | succ i =>
      have h1 := lv_args_at av (j + 1) (fun u hu => hc u (List.mem_cons_of_mem _ hu)) i v (by simpa using h)
      unfold lv_args
      rw [if_neg (by omega)]
      exact List.mem_cons_of_mem _ (by rw [show j + (i + 1) = j + 1 + i by omega]; exact h1)
theorem lg_sl_len : ∀ (av : List Value), (∀ v ∈ av, v.category = 1) → (lg_sl av).length = av.length
  | [], _ => rfl
  | a :: av, hc => by
    have ha : a.category = 1 := hc a List.mem_cons_self
    have h1 := lg_sl_len av (fun u hu => hc u (List.mem_cons_of_mem _ hu))
    cases a <;> first | (simp [lg_sl, Value.category] at h1 ha ⊢; done) | (simp [lg_sl, Value.category] at h1 ha ⊢; omega) | (simp_all [lg_sl, Value.category])
theorem lh_entry (av : List Value) {nL : Nat} (hn : av.length ≤ nL) (hc : ∀ v ∈ av, v.category = 1) : lh ((lg_sl av ++ List.replicate (nL - (lg_sl av).length) Slot.unset).toArray) nL (av.map some ++ List.replicate (nL - av.length) none) := by
  have h := lv_entry av (n := nL) (by rw [lg_sl_len av hc]; exact hn)
  refine ⟨h.1, h.2.1, by simp; omega, fun i v hi => ?_⟩
  have hi' : av[i]? = some v := by
    by_cases hl : i < av.length
    · rw [List.getElem?_append_left (by simpa using hl), List.getElem?_map] at hi
      cases hq : av[i]? with
      | none => rw [hq] at hi; cases hi
      | some u => rw [hq] at hi; exact congrArg some (Option.some.inj (Option.some.inj hi))
    · rw [List.getElem?_append_right (by simpa using hl), List.getElem?_replicate] at hi
      split at hi <;> cases hi
  refine ⟨hc v (List.mem_of_getElem? hi'), h.2.2 (i, v) ?_⟩
  have := lv_args_at av 0 hc i v hi'
  rwa [Nat.zero_add] at this
theorem ofWF {l : Launch} {y : MethodName} {ws ws' : List Cond} {rm : Room} {Pc : Array Value → State → Prop} {Qc : Array Value → State → Outcome → State → Prop} {mc ms : Nat} {free : Addr → Prop} {cc : ByteArray} {maxL : Nat} {ret : Option FieldType}
    (hy : plainFor y = true) (hw : ws = Cond.code y cc maxL ret :: ws')
    (body : ∀ p e s m args below meth c s₁, BodyLoose p l y (headSpec ws rm) cc maxL ret e s m args below meth c s₁ → c.maxLocals = maxL → Pc args s →
      W p l e (headSpec ws rm).room s m args below meth c s.heap [] 0 0 (MQ below Qc args s mc ms free) (entryFrame m args maxL)) : Met l y ws rm Pc Qc mc ms free := by
  refine MetFree.of_bodySF (code := cc) (maxLocals := maxL) (ret := ret) hy ?_ ?_
  · intro args s m h hn
    obtain ⟨meth, c, h1, h2, h3, h4, h5, h6, -, -⟩ := Cond.code_spec hn (atoms_spec (ws := ws) h _ (by rw [hw]; exact List.mem_cons_self))
    exact ⟨meth, c, h1, h2, h3, h4, h5, h6⟩
  · intro p e s m args below meth c s₁ B hml hP _
    have hh0 : s₁.heap = s.heap := by rw [B.state]; rfl
    obtain ⟨t, a1, o, b1, b2, b3⟩ := body p e s m args below meth c s₁ B hml hP s₁ hh0 (Stand.of_body B)
    exact ⟨t, o, a1, b1, b2, ⟨b3.1, b3.2⟩⟩
theorem CT.of {α : Type} {l : Launch} {g : GG} {w : WD} {rm : Room} {y : MethodName} {cc : ByteArray} {nL : Nat} {ret : Option FieldType} {av : List Value} {M : Mem} {fin : α → Option Value × Mem} {O : Option α}
    (hy : plainFor y = true) (hn : av.length ≤ nL) (hc : ∀ v ∈ av, v.category = 1)
    (body : ∀ z : ZT, Cx z l g w rm cc nL y.cls ret → XG z g w nL (ZQ z g w fin) 0 0 0 (av.map some ++ List.replicate (nL - av.length) none) [] M O) : CT l g w rm y cc nL ret av M fin O := by
  intro sz a ha
  refine ofWF (cc := cc) (maxL := nL) (ret := ret) hy rfl ?_
  intro p e s m args below meth c s₁ B hml hP
  obtain ⟨rfl, hsz, hP, hK, hI, hle⟩ := hP
  subst hsz
  have hts := atoms_spec (ws := wsy y cc nL ret) B.pre
  have hX := body (p, l, e, rm, s, m, av.toArray, below, meth, c) ⟨B.exec, B.bytes, hml, findClass_of_methodNamed B.named, B.returns, B.notSynchronized, fun w hw hg => hts w (List.mem_cons_of_mem _ (Tg_in hw hg)), hK, hI, hle, rfl, rfl⟩ a ha s.heap [] _ (lh_entry av hn hc) hP va_S.rf
  rw [lg_entry_eq]
  exact hX
/-- an invokable link: an instance method; a static one -/
def LkV (own : String) (idx : Nat) (y : MethodName) (cc : ByteArray) (nL : Nat) (ret : Option FieldType) (nA : Nat) : Prop :=
  Cond.code y cc nL ret ∈ lw_tbl ∧ Cond.initialized y.cls ∈ lw_tbl ∧ Cond.methodLink own idx y ∈ lw_tbl ∧ Cond.instanceMethod y ∈ lw_tbl ∧ Cond.selects y.cls y y ∈ lw_tbl ∧ (y.cls ≠ "java/lang/invoke/MethodHandle" ∧ y.cls ≠ "java/lang/invoke/VarHandle") ∧ (parseMethodDescriptor y.desc).map (fun d => d.parameters.length) = some nA
def LkS (own : String) (idx : Nat) (y : MethodName) (cc : ByteArray) (nL : Nat) (ret : Option FieldType) (nA : Nat) : Prop :=
  Cond.code y cc nL ret ∈ lw_tbl ∧ Cond.initialized y.cls ∈ lw_tbl ∧ Cond.methodLink own idx y ∈ lw_tbl ∧ Cond.static y ∈ lw_tbl ∧ (y.cls ≠ "java/lang/invoke/MethodHandle" ∧ y.cls ≠ "java/lang/invoke/VarHandle") ∧ (parseMethodDescriptor y.desc).map (fun d => d.parameters.length) = some nA
theorem Tg_good : GoodIn Tg Tg := fun c h => ⟨h, good_of_word (List.mem_filter.mp h).2⟩
theorem wsy_good {y : MethodName} {cc : ByteArray} {nL : Nat} {ret : Option FieldType} (h : Cond.code y cc nL ret ∈ lw_tbl) : GoodIn Tg (wsy y cc nL ret) := fun c hc => by
  rcases List.mem_cons.mp hc with rfl | hc
  · exact ⟨Tg_in h rfl, good_of_word rfl⟩
  · exact Tg_good c hc
theorem PF_blind {av : List Value} {g : GG} {w : WD} {M : Mem} {sz : Nat} : FrameBlind (va_Pc av (PF g w M sz)) := by
  intro a U fr mk h
  obtain ⟨h1, h2, h3, h4, h5, h6⟩ := h
  exact ⟨h1, h2, h3, KK.same rfl h4, Im.moved (Vm.Alike.refl U.vm) h5, h6⟩
section Rows
variable {α : Type} {z : ZT} {l : Launch} {g : GG} {w : WD} {R : Room} {cc : ByteArray} {nL : Nat} {own : String} {ret : Option FieldType} {Qs : α → State → Prop} {k n pc : Nat} {L L' : List (Option Value)} {st : List Value} {M : Mem} {O A B : Option α}
theorem AA_sub {s0 s1 : Nat} (h : s0 ≤ s1) : ∀ q, AA w s1 q → AA w s0 q := fun q hq => hq.elim (fun x => Or.inl x) (fun x => Or.inr (Nat.le_trans h x))
/-- the world of a callee, out of the caller's -/
theorem PF_of (C : Cx z l g w R cc nL own ret) {H : Heap} {locs : List Loc} (hP : va_P g.1 vwCl (wld g w M) H) (hS : va_S (AA w (zs z).heap.size) (zs z).heap H locs) {U : State} (hU : U.heap = H) (hW : (zs z).WarmedH U.vm) : PF g w M H.size U := by
  refine ⟨by rw [hU], by rw [hU]; exact hP, KK.warm hW C.2.2.2.2.2.2.2.1, ?_, Nat.le_trans C.2.2.2.2.2.2.2.2.2.1 hS.1⟩
  rw [hU]
  exact ((C.2.2.2.2.2.2.2.2.1.kept hS.2.1).narrow (AA_sub hS.1)).moved hW.alike
/-- behind a call -/
theorem x_ofRun {β : Type} {O1 : Option β} {fin1 : β → Option Value × Mem} {K : β → Option α} {st0 : List Value} {a9 : Array Value}
    (hr : ∀ (b : β) (H : Heap) (locs : List Loc) (ls : Array Slot), O1 = some b → lh ls nL L → va_P g.1 vwCl (wld g w M) H → va_S (AA w (zs z).heap.size) (zs z).heap H locs → va_Run (zp z) (zl z) (ze z) (zR z) (zs z) (zm z) (za z) (zb z) (zt z) (zc z) H locs k n 0 0 (F0 (zm z) pc ls st0) st (QF g w (fin1 b) a9) (AA w H.size))
    (kk : ∀ b, O1 = some b → XG z g w nL Qs k n (pc + 3) L ((fin1 b).1.toList ++ st) (fin1 b).2 (K b)) : XG z g w nL Qs k n pc L st0 M (O1.bind K) := by
  intro a ha H locs ls hl hP hS
  cases hO : O1 with
  | none => rw [hO] at ha; cases ha
  | some b =>
    rw [hO] at ha
    have ha : K b = some a := ha
    intro T hT X
    obtain ⟨v, st₀, t, T', Ls, h0, X', hL, e1, e2, ⟨hv, hp, hz, hk⟩, step⟩ := hr b H locs ls hO hl hP hS T hT X
    rw [h0] at hz hk
    have hv' : v = (fin1 b).1 := Outcome.returned.inj hv
    subst hv'
    have hS' : va_S (AA w (zs z).heap.size) (zs z).heap T'.heap (locs ++ Ls) := by
      refine ⟨Nat.le_trans hS.1 (by rw [e1]; exact hz), fun q h1 h2 => ?_, fun q hq => ?_⟩
      · rw [e1, hk q (Nat.lt_of_lt_of_le h1 hS.1) (fun y => h2 (AA_sub hS.1 q y))]
        exact hS.2.1 q h1 h2
      · rcases List.mem_append.mp hq with h | h
        · exact hS.2.2 q h
        · exact AA_sub hS.1 _ (hL q h)
    obtain ⟨t2, a1, b1⟩ := kk b hO a ha T'.heap (locs ++ Ls) ls hl (by rw [e1]; exact hp) hS' T' rfl X'
    exact ⟨t2, step t2 a1, b1⟩
theorem recv_r (C : Cx z l g w R cc nL own ret) {H : Heap} {r ci : Nat} {Cn : String} {T : u_T} {N : Nat} (hr : r < w.2.2.1) (hk : w.1 r = (0, ci)) (hc : vwCl[ci]? = some (Cn, T, N)) (hP : va_P g.1 vwCl (wld g w M) H) : ∃ cellB : Cell, H[w.2.2.2 + r]? = some cellB ∧ cellB.vm.isStatics = false ∧ (zs z).vm.findClass Cn = some cellB.cls := by
  obtain ⟨q, h1, cell, h2, h3, h4, -⟩ := hP r _ (wld_k hr hk)
  cases hc.symm.trans h1
  exact ⟨cell, h2, by rw [h4]; rfl, by rw [h3]; exact (C.2.2.2.2.2.2.2.1.1.1 ci _ hc).2.1⟩
theorem x_callV {β : Type} {O1 : Option β} {fin1 : β → Option Value × Mem} {K : β → Option α} (C : Cx z l g w R cc nL own ret) {rm : Room} {y : MethodName} {bytes : ByteArray} {mL nA idx : Nat} {ry : Option FieldType} {As : List Value} {a : Nat} {st0 : List Value}
    (hM : CT l g w rm y bytes mL ry (.ref a :: As) M fin1 O1) (lk : LkV own idx y bytes mL ry nA)
    (hv : ∀ H : Heap, va_P g.1 vwCl (wld g w M) H → ∀ locs, va_S (AA w (zs z).heap.size) (zs z).heap H locs → ∃ cellB : Cell, H[a]? = some cellB ∧ cellB.vm.isStatics = false ∧ (zs z).vm.findClass y.cls = some cellB.cls)
    (hn : As.length = nA) (hst : st0 = As.reverse ++ .ref a :: st) (hW : (st.map fun v => v.category).sum ≤ 8) (hrm : rm.cells = 0 ∧ rm.slots = 0 ∧ rm.frames + 1 ≤ R.frames ∧ 8 + (mL + 11) + rm.locals ≤ R.locals) (hkn : k ≤ R.cells ∧ n ≤ R.slots) (d : decode cc pc = .ok (.invokevirtual idx, 3))
    (kk : ∀ b, O1 = some b → XG z g w nL Qs k n (pc + 3) L ((fin1 b).1.toList ++ st) (fin1 b).2 (K b)) : XG z g w nL Qs k n pc L st0 M (O1.bind K) := by
  obtain ⟨w1, w2, w3, w4, w5, w6, w7⟩ := lk
  have hl := C.2.2.2.2.2.2.2.2.2.2.2
  have hR := C.2.2.2.2.2.2.2.2.2.2.1
  refine x_ofRun (a9 := (Value.ref a :: As).toArray) (fun b H locs ls hO hlh hP hS => ?_) kk
  refine va_runV (C := y.cls) (As := As) (rest := st) (index := idx) (nL := nL) (n := nA) ⟨C.1, C.2.1, C.2.2.1, C.2.2.2.1, x_htg C⟩ (by rw [hl]; exact hM H.size b hO) ⟨callB_of nA (x_htg C) (wsy_good w1) rfl hrm.1 hrm.2.1 (x_hts C w2 rfl) (x_hts C w3 rfl) ⟨w6.1, w6.2, w7⟩ (by rw [hR]; exact ⟨hrm.2.2.1, hrm.2.2.2⟩), x_hts C w4 rfl, x_hts C w5 rfl⟩ ⟨PF_blind, hv H hP locs hS, fun U hU hWm => ⟨rfl, PF_of C hP hS hU hWm⟩⟩ rfl hn hlh.1 hst (by show 2 * 0 + _ ≤ 8; omega) d (by rw [hR]; exact ⟨by omega, by omega⟩)
theorem x_callS {β : Type} {O1 : Option β} {fin1 : β → Option Value × Mem} {K : β → Option α} (C : Cx z l g w R cc nL own ret) {rm : Room} {y : MethodName} {bytes : ByteArray} {mL nA idx : Nat} {ry : Option FieldType} {As : List Value} {st0 : List Value}
    (hM : CT l g w rm y bytes mL ry As M fin1 O1) (lk : LkS own idx y bytes mL ry nA)
    (hn : As.length = nA) (hst : st0 = As.reverse ++ st) (hW : (st.map fun v => v.category).sum ≤ 8) (hrm : rm.cells = 0 ∧ rm.slots = 0 ∧ rm.frames + 1 ≤ R.frames ∧ 8 + (mL + 11) + rm.locals ≤ R.locals) (hkn : k ≤ R.cells ∧ n ≤ R.slots) (d : decode cc pc = .ok (.invokestatic idx, 3))
    (kk : ∀ b, O1 = some b → XG z g w nL Qs k n (pc + 3) L ((fin1 b).1.toList ++ st) (fin1 b).2 (K b)) : XG z g w nL Qs k n pc L st0 M (O1.bind K) := by
  obtain ⟨w1, w2, w3, w4, w6, w7⟩ := lk
  have hl := C.2.2.2.2.2.2.2.2.2.2.2
  have hR := C.2.2.2.2.2.2.2.2.2.2.1
  refine x_ofRun (a9 := As.toArray) (fun b H locs ls hO hlh hP hS => ?_) kk
  refine va_runS (As := As) (rest := st) (index := idx) (nL := nL) (n := nA) ⟨C.1, C.2.1, C.2.2.1, C.2.2.2.1, x_htg C⟩ (by rw [hl]; exact hM H.size b hO) ⟨callB_of nA (x_htg C) (wsy_good w1) rfl hrm.1 hrm.2.1 (x_hts C w2 rfl) (x_hts C w3 rfl) ⟨w6.1, w6.2, w7⟩ (by rw [hR]; exact ⟨hrm.2.2.1, hrm.2.2.2⟩), x_hts C w4 rfl⟩ ⟨PF_blind, fun U hU hWm => ⟨rfl, PF_of C hP hS hU hWm⟩⟩ rfl hn hlh.1 hst (by show 2 * 0 + _ ≤ 8; omega) d (by rw [hR]; exact ⟨by omega, by omega⟩)
/-- ends -/
theorem x_iret {fin : α → Option Value × Mem} (C : Cx z l g w R cc nL own (some .int)) {v : Int32} {a : α} (d : decode cc pc = .ok (.ireturn, 1)) (hf : fin a = (some (.int v), M)) : XG z g w nL (ZQ z g w fin) 0 0 pc L [.int v] M (some a) := by
  intro a' ha H locs ls hl hP hS
  cases ha
  exact W.iret C.1 C.2.1 C.2.2.2.2.1 (fun t ht _ => ⟨by rw [hf], by rw [hf, ht]; exact hP, hS.F ht⟩) hS.2.2 d C.2.2.2.2.2.1
theorem x_zret {fin : α → Option Value × Mem} {ty : FieldType} (C : Cx z l g w R cc nL own (some ty)) {v : Int32} {a : α} (d : decode cc pc = .ok (.ireturn, 1)) (hv : narrow ty (.int v) = .int v) (hf : fin a = (some (.int v), M)) : XG z g w nL (ZQ z g w fin) 0 0 pc L [.int v] M (some a) := by
  intro a' ha H locs ls hl hP hS
  cases ha
  exact W.zret C.1 C.2.1 C.2.2.2.2.1 hv (fun t ht _ => ⟨by rw [hf], by rw [hf, ht]; exact hP, hS.F ht⟩) hS.2.2 d C.2.2.2.2.2.1
theorem x_zretc {fin : α → Option Value × Mem} (C : Cx z l g w R cc nL own (some .boolean)) {v : Int32} {a : α} (d : decode cc pc = .ok (.ireturn, 1)) (hf : fin a = (some (.int v), M)) : XG z g w nL (ZQ z g w fin) 0 0 pc L [.int v] M (chk (isB v) (some a)) :=
  x_chk fun h => x_zret C d (isB_nar h) hf
theorem x_vret {fin : α → Option Value × Mem} (C : Cx z l g w R cc nL own none) {a : α} (d : decode cc pc = .ok (.return_, 1)) (hf : fin a = (none, M)) : XG z g w nL (ZQ z g w fin) 0 0 pc L [] M (some a) := by
  intro a' ha H locs ls hl hP hS
  cases ha
  exact W.vret C.1 C.2.1 C.2.2.2.2.1 (fun t ht _ => ⟨by rw [hf], by rw [hf, ht]; exact hP, hS.F ht⟩) hS.2.2 d C.2.2.2.2.2.1
theorem x_qret {fin : α → Option Value × Mem} {nm : String} (C : Cx z l g w R cc nL own (some (.object nm))) {o : Option Nat} {a : α} (d : decode cc pc = .ok (.areturn, 1)) (hf : fin a = (some (va_rf o), M)) : XG z g w nL (ZQ z g w fin) 0 0 pc L [va_rf o] M (some a) := by
  intro a' ha H locs ls hl hP hS
  cases ha
  refine W.aret C.1 C.2.1 C.2.2.2.2.1 (Or.inl ⟨_, rfl⟩) ?_ (fun t ht _ => ⟨by rw [hf], by rw [hf, ht]; exact hP, hS.F ht⟩) hS.2.2 d C.2.2.2.2.2.1
  cases o with
  | none => exact Or.inl rfl
  | some a => exact Or.inr ⟨a, rfl⟩
end Rows
