/-! methods that throw -/
def exNm : List String := ["java/lang/RuntimeException", "java/lang/Exception"]
def exB : List Cond := exL.map (fun c => .castable c c) ++ dclL.map .declares
/-- the exception of number e (from 1 on) -/
def exN (e : Nat) : String := exL.getD (e - 1) ""
abbrev XR : Type := Nat × Int32 × Mem
def QX (g : GG) (w : WD) (a : XR) : Array Value → State → Outcome → State → Prop := fun _ st oc t => a.1 = 0 ∧ oc = .returned (some (.int a.2.1)) ∧ va_P g.1 vwCl (wld g w a.2.2) t.heap ∧ va_F (AA w st.heap.size) st t
def XX (g : GG) (w : WD) (a : XR) : String → State → State → Prop := fun E st t => ¬ a.1 = 0 ∧ E = exN a.1 ∧ va_P g.1 vwCl (wld g w a.2.2) t.heap ∧ va_F (AA w st.heap.size) st t
def rmx (d : Nat) : Room := { frames := d, cells := 1, slots := 6, locals := 64 * d }
def CX (l : Launch) (g : GG) (w : WD) (rm : Room) (y : MethodName) (cc : ByteArray) (nL : Nat) (ret : Option FieldType) (av : List Value) (M : Mem) (O : Option XR) : Prop :=
  ∀ (sz : Nat) (a : XR), O = some a → vx_Met l y (wsy y cc nL ret) rm (va_Pc av (PF g w M sz)) (QX g w a) (XX g w a) 1 6 (AA w sz)
def ZX (z : ZT) (g : GG) (w : WD) : XR → State → Prop := fun a => vx_MQ (zb z) (QX g w a) (XX g w a) (za z) (zs z) 1 6 (AA w (zs z).heap.size)
/-- the room of the walk, and no handlers -/
def CxX (z : ZT) (l : Launch) (g : GG) (w : WD) (R : Room) (cc : ByteArray) (nL : Nat) (own : String) (ret : Option FieldType) : Prop := Cx z l g w R cc nL own ret ∧ ∀ x ∈ (zc z).exceptionTable.toList, False
theorem CX.of {l : Launch} {g : GG} {w : WD} {rm : Room} {y : MethodName} {cc : ByteArray} {nL : Nat} {ret : Option FieldType} {av : List Value} {M : Mem} {O : Option XR}
    (hy : plainName y.cls = true) (hn : av.length ≤ nL) (hc : ∀ v ∈ av, v.category = 1)
    (body : ∀ z : ZT, CxX z l g w rm cc nL y.cls ret → XG z g w nL (ZX z g w) 0 0 0 (av.map some ++ List.replicate (nL - av.length) none) [] M O) : CX l g w rm y cc nL ret av M O := by
  intro sz a ha
  refine vx_ofW (cc := cc) (maxL := nL) (ret := ret) hy rfl ?_
  intro p e s m args below meth c s₁ B hml hex hP
  obtain ⟨rfl, hsz, hP, hK, hI, hle⟩ := hP
  subst hsz
  have hts := atoms_spec (ws := wsy y cc nL ret) B.pre
  have hX := body (p, l, e, rm, s, m, av.toArray, below, meth, c) ⟨⟨B.exec, B.bytes, hml, findClass_of_methodNamed B.named, B.returns, B.notSynchronized, fun w hw hg => hts w (List.mem_cons_of_mem _ (Tg_in hw hg)), hK, hI, hle, rfl, rfl⟩, hex⟩ a ha s.heap [] _ (lh_entry av hn hc) hP va_S.rf
  rw [lg_entry_eq]
  exact hX
/-- the words of a throw: class link, initialized, those of the constructor -/
def LkX (own : String) (ik ic : Nat) (cls : String) : Prop := Cond.classLink own ik cls ∈ lw_tbl ∧ Cond.initialized cls ∈ lw_tbl ∧ Bundle.fit cls = true ∧ (∀ w ∈ (vx_atS own ic cls exNm).filter goodWord, w ∈ lw_tbl) ∧ (∀ w ∈ (vx_atS own ic cls exNm).filter (fun w => !goodWord w), w ∈ exB) ∧ ∀ w ∈ Cond.classLink own ik cls :: Cond.initialized cls :: vx_atS own ic cls exNm, vx_ot w = true
section Rows
variable {z : ZT} {l : Launch} {g : GG} {w : WD} {R : Room} {cc : ByteArray} {nL : Nat} {own : String} {ret : Option FieldType} {pc : Nat} {L L' : List (Option Value)} {st : List Value} {M : Mem}
theorem exB_of (C : Cx z l g w R cc nL own ret) : ∀ c ∈ exB, c.before (za z) (zs z) = true := by
  intro c hc
  rcases List.mem_append.mp hc with h | h
  · obtain ⟨x, hx, rfl⟩ := List.mem_map.mp h
    exact va_Nw.use rfl (C.2.2.2.2.2.2.2.1.2.2.2.2.1 x hx)
  · obtain ⟨x, hx, rfl⟩ := List.mem_map.mp h
    exact va_Nw.use rfl (C.2.2.2.2.2.2.2.1.2.2.2.2.2.1 x hx)
theorem x_xret (C : Cx z l g w R cc nL own (some .int)) {v : Int32} (d : decode cc pc = .ok (.ireturn, 1)) : XG z g w nL (ZX z g w) 0 0 pc L [.int v] M (some (0, v, M)) := by
  intro a' ha H locs ls hl hP hS
  cases ha
  refine W.widen (k := 1) (n := 6) (by omega) (by omega) ?_
  exact vx_ret (W.iret C.1 C.2.1 C.2.2.2.2.1 (fun t ht _ => ⟨rfl, rfl, by rw [ht]; exact hP, hS.F ht⟩) hS.2.2 d C.2.2.2.2.2.1)
theorem x_throw (C : CxX z l g w R cc nL own ret) (hl : l.stackTraces = false) {ik is ic si e : Nat} {cls text : String} (he : ¬ e = 0 ∧ exN e = cls) (lk : LkX own ik ic cls) (hsi : strT[si]? = some (own, is, text)) (hR : 5 < R.frames ∧ 82 ≤ R.locals ∧ 1 ≤ R.cells ∧ 6 ≤ R.slots)
    (d0 : decode cc pc = .ok (.new ik, 3)) (d3 : decode cc (pc + 3) = .ok (.dup, 1)) (d4 : decode cc (pc + 4) = .ok (.ldc is, 2)) (d6 : decode cc (pc + 6) = .ok (.invokespecial ic, 3)) (d9 : decode cc (pc + 9) = .ok (.athrow, 1)) : XG z g w nL (ZX z g w) 0 0 pc L [] M (some (e, 0, M)) := by
  intro a' ha H locs ls hlh hP hS
  cases ha
  obtain ⟨C, hex⟩ := C
  obtain ⟨w1, w2, w3, w4, w5, w6⟩ := lk
  have hRz := C.2.2.2.2.2.2.2.2.2.2.1
  have hlz := C.2.2.2.2.2.2.2.2.2.2.2
  have hk := x_hts C w1 rfl
  have hi := x_hts C w2 rfl
  refine vx_throwS (names := exNm) (ik := ik) (is := is) (ic := ic) (cls := cls) C.1 C.2.1 (by rw [hlz]; exact hl) C.2.2.2.1 w3 (by decide +kernel) hk hi (C.2.2.2.2.2.2.2.1.2.2.2.1 si _ hsi) (vx_hat (fun c hc => x_hts C (w4 c hc) (List.mem_filter.mp hc).2) w5 (exB_of C)) w6 (cxI C).2.2.2.2.2.2.1 (cxI C).2.2.2.2.2.2.2 hS (by rw [hlh.1]; exact C.2.2.1.symm) d0 d3 d4 d6 d9 (fun x hx => (hex x hx).elim) (by rw [hRz]; exact hR.1) (by rw [hRz]; exact hR.2.1) (by rw [hRz]; exact hR.2.2.1) (by rw [hRz]; exact hR.2.2.2) C.2.2.2.2.2.1 ?_ hS.2.2 (by omega) (by omega)
  intro t hvm hz hq
  refine ⟨he.1, he.2.symm, fun k q hkq => (hP k q hkq).kept (hq q.1 (hP k q hkq).lt), Nat.le_trans hS.1 hz, fun q h1 h2 => ?_⟩
  rw [hq q (Nat.lt_of_lt_of_le h1 hS.1)]
  exact hS.2.1 q h1 h2
theorem x_throwW (C : CxX z l g w R cc nL own ret) (hl : l.stackTraces = false) {ik is ic si e : Nat} {cls text : String} (he : ¬ e = 0 ∧ exN e = cls) (lk : LkX own ik ic cls) (hsi : strT[si]? = some (own, is, text)) (hR : 5 < R.frames ∧ 82 ≤ R.locals ∧ 1 ≤ R.cells ∧ 6 ≤ R.slots)
    (d0 : decode cc pc = .ok (.new ik, 3)) (d3 : decode cc (pc + 3) = .ok (.dup, 1)) (d4 : decode cc (pc + 4) = .ok (.ldc_w is, 3)) (d6 : decode cc (pc + 7) = .ok (.invokespecial ic, 3)) (d9 : decode cc (pc + 10) = .ok (.athrow, 1)) : XG z g w nL (ZX z g w) 0 0 pc L [] M (some (e, 0, M)) := by
  intro a' ha H locs ls hlh hP hS
  cases ha
  obtain ⟨C, hex⟩ := C
  obtain ⟨w1, w2, w3, w4, w5, w6⟩ := lk
  have hRz := C.2.2.2.2.2.2.2.2.2.2.1
  have hlz := C.2.2.2.2.2.2.2.2.2.2.2
  have hk := x_hts C w1 rfl
  have hi := x_hts C w2 rfl
  refine vx_throwSW (names := exNm) (ik := ik) (is := is) (ic := ic) (cls := cls) C.1 C.2.1 (by rw [hlz]; exact hl) C.2.2.2.1 w3 (by decide +kernel) hk hi (C.2.2.2.2.2.2.2.1.2.2.2.1 si _ hsi) (vx_hat (fun c hc => x_hts C (w4 c hc) (List.mem_filter.mp hc).2) w5 (exB_of C)) w6 (cxI C).2.2.2.2.2.2.1 (cxI C).2.2.2.2.2.2.2 hS (by rw [hlh.1]; exact C.2.2.1.symm) d0 d3 d4 d6 d9 (fun x hx => (hex x hx).elim) (by rw [hRz]; exact hR.1) (by rw [hRz]; exact hR.2.1) (by rw [hRz]; exact hR.2.2.1) (by rw [hRz]; exact hR.2.2.2) C.2.2.2.2.2.1 ?_ hS.2.2 (by omega) (by omega)
  intro t hvm hz hq
  refine ⟨he.1, he.2.symm, fun k q hkq => (hP k q hkq).kept (hq q.1 (hP k q hkq).lt), Nat.le_trans hS.1 hz, fun q h1 h2 => ?_⟩
  rw [hq q (Nat.lt_of_lt_of_le h1 hS.1)]
  exact hS.2.1 q h1 h2
end Rows
theorem rmok_x {d D mL : Nat} (h1 : d < D) (h2 : mL ≤ 45) : rmok (rmd d) (rmx D) mL := ⟨rfl, rfl, h1, by show 8 + (mL + 11) + 64 * d ≤ 64 * D; omega⟩
theorem lx_138 : LkX RX11 134 138 "java/lang/IllegalArgumentException" := ⟨by decide +kernel, by decide +kernel, by decide +kernel, by decide +kernel, by decide +kernel, by decide +kernel⟩
theorem lx_148 : LkX RX11 144 148 "java/lang/UnsupportedOperationException" := ⟨by decide +kernel, by decide +kernel, by decide +kernel, by decide +kernel, by decide +kernel, by decide +kernel⟩
theorem lx_166 : LkX RX11 162 166 "java/lang/IndexOutOfBoundsException" := ⟨by decide +kernel, by decide +kernel, by decide +kernel, by decide +kernel, by decide +kernel, by decide +kernel⟩
theorem lx_223 : LkX RX11 219 223 "java/lang/IllegalStateException" := ⟨by decide +kernel, by decide +kernel, by decide +kernel, by decide +kernel, by decide +kernel, by decide +kernel⟩
