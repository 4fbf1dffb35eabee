/-! calls by the kind of the answer; tables; names -/
def finI (M : Mem) (v : Int32) : Option Value × Mem := (some (.int v), M)
def finM (a : Int32 × Mem) : Option Value × Mem := (some (.int a.1), a.2)
def finV (a : Mem) : Option Value × Mem := (none, a)
def finQ (g : GG) (M : Mem) (v : Int32) : Option Value × Mem := (some (va_rf (ths g v)), M)
def bnd2 {γ : Type} (o : Option (Int32 × Mem)) (K : Int32 → Mem → Option γ) : Option γ := match o with
  | none => none
  | some a => K a.1 a.2
/-- a value by a name -/
def lt1 {β γ : Type} (e : β) (f : β → Option γ) : Option γ := f e
/-- turns enough for every loop, levels enough for every recursion -/
def FD : Nat := 12
theorem ltb {i n : Nat} (h : Nat.ble (i + 1) n = true) : i < n := Nat.le_of_ble_eq_true h
def FU : Nat := 1000000
theorem bnd2_bind {γ : Type} (o : Option (Int32 × Mem)) (K : Int32 → Mem → Option γ) : bnd2 o K = o.bind (fun a => K a.1 a.2) := by cases o <;> rfl
theorem cat_rf (o : Option Nat) : (va_rf o).category = 1 := by cases o <;> rfl
theorem cat0 : ∀ v ∈ ([] : List Value), v.category = 1 := fun _ h => absurd h List.not_mem_nil
theorem catc {u : Value} {l : List Value} (h : u.category = 1) (t : ∀ v ∈ l, v.category = 1) : ∀ v ∈ u :: l, v.category = 1 := List.forall_mem_cons.mpr ⟨h, t⟩
section Rows
variable {α : Type} {z : ZT} {l : Launch} {g : GG} {w : WD} {R : Room} {cc : ByteArray} {nL : Nat} {own : String} {ret : Option FieldType} {Qs : α → State → Prop} {k n pc : Nat} {L L' : List (Option Value)} {st : List Value} {M : Mem} {O A B : Option α}
theorem x_gen {β : Type} (e : β) (Lf : β → List (Option Value)) (sf : β → List Value) (Mf : β → Mem) (Of : β → Option α) (h : ∀ v, XG z g w nL Qs k n pc (Lf v) (sf v) (Mf v) (Of v)) : XG z g w nL Qs k n pc (Lf e) (sf e) (Mf e) (Of e) := h e
theorem x_lti {e : Int32} {f : Int32 → Option α} (kk : ∀ v, XG z g w nL Qs k n pc L (.int v :: st) M (f v)) : XG z g w nL Qs k n pc L (.int e :: st) M (lt1 e f) := kk e
theorem x_ltM {e : Mem} {f : Mem → Option α} (kk : ∀ M1, XG z g w nL Qs k n pc L st M1 (f M1)) : XG z g w nL Qs k n pc L st e (lt1 e f) := kk e
theorem x_tsIn (C : Cx z l g w R cc nL own ret) {df lo hi : Int} {offs : Array Int} {len : Nat} {x c : Int32} {off : Int} {tgt : Nat} (d : decode cc pc = .ok (.tableswitch df lo hi offs, len)) (hx : x = c) (h1 : ¬ c.toInt < lo) (h2 : ¬ hi < c.toInt) (ho : offs[(c.toInt - lo).toNat]? = some off) (ht : (pc : Int) + off = (tgt : Int)) (kk : XG z g w nL Qs k n tgt L st M O) : XG z g w nL Qs k n pc L (.int x :: st) M O := by
  subst hx
  exact x_one (fun _ v9 => lv_tableIn C.1 C.2.1 d h1 h2 ho ht v9) kk
theorem x_tsOut (C : Cx z l g w R cc nL own ret) {df lo hi : Int} {offs : Array Int} {len : Nat} {x : Int32} {tgt : Nat} (d : decode cc pc = .ok (.tableswitch df lo hi offs, len)) (h : x.toInt < lo ∨ hi < x.toInt) (ht : (pc : Int) + df = (tgt : Int)) (kk : XG z g w nL Qs k n tgt L st M O) : XG z g w nL Qs k n pc L (.int x :: st) M O :=
  x_one (fun _ v9 => lv_tableOut C.1 C.2.1 d h ht v9) kk
theorem ts_out {x : Int32} {lo hi : Int} (h : ∀ j : Int, lo ≤ j → j ≤ hi → ¬ x = Int32.ofInt j) : x.toInt < lo ∨ hi < x.toInt := by
  refine Classical.byContradiction fun q => ?_
  have h1 : lo ≤ x.toInt := Int.not_lt.mp fun y => q (Or.inl y)
  have h2 : x.toInt ≤ hi := Int.not_lt.mp fun y => q (Or.inr y)
  exact h x.toInt h1 h2 (Int32.ofInt_toInt x).symm
variable {rm : Room} {y : MethodName} {bytes : ByteArray} {mL nA idx : Nat} {ry : Option FieldType} {As : List Value} {st0 : List Value} {r ci : Nat}
abbrev rmok (rm R : Room) (mL : Nat) : Prop := rm.cells = 0 ∧ rm.slots = 0 ∧ rm.frames + 1 ≤ R.frames ∧ 8 + (mL + 11) + rm.locals ≤ R.locals
theorem rmok_d {d D mL : Nat} (h1 : d < D) (h2 : mL ≤ 45) : rmok (rmd d) (rmd D) mL := ⟨rfl, rfl, h1, by show 8 + (mL + 11) + 64 * d ≤ 64 * D; omega⟩
theorem x_Vi {O1 : Option Int32} {K : Int32 → Option α} (C : Cx z l g w R cc nL own ret) (hM : CT l g w rm y bytes mL ry (.ref (w.2.2.2 + r) :: As) M (finI M) O1) (lk : LkV own idx y bytes mL ry nA) (hr : r < w.2.2.1) (hk : w.1 r = (0, ci)) (hc : ∃ T N, vwCl[ci]? = some (y.cls, T, N)) (hn : As.length = nA) (hst : st0 = As.reverse ++ .ref (w.2.2.2 + r) :: st) (hW : (st.map fun v => v.category).sum ≤ 8) (hrm : rmok rm R mL) (hkn : k ≤ R.cells ∧ n ≤ R.slots) (d : decode cc pc = .ok (.invokevirtual idx, 3))
    (kk : ∀ v, XG z g w nL Qs k n (pc + 3) L (.int v :: st) M (K v)) : XG z g w nL Qs k n pc L st0 M (O1.bind K) := by
  obtain ⟨T, N, hc⟩ := hc
  exact x_callV C hM lk (fun H hP _ _ => recv_r C hr hk hc hP) hn hst hW hrm hkn d (fun b _ => kk b)
theorem x_Vm {O1 : Option (Int32 × Mem)} {K : Int32 → Mem → Option α} (C : Cx z l g w R cc nL own ret) (hM : CT l g w rm y bytes mL ry (.ref (w.2.2.2 + r) :: As) M finM O1) (lk : LkV own idx y bytes mL ry nA) (hr : r < w.2.2.1) (hk : w.1 r = (0, ci)) (hc : ∃ T N, vwCl[ci]? = some (y.cls, T, N)) (hn : As.length = nA) (hst : st0 = As.reverse ++ .ref (w.2.2.2 + r) :: st) (hW : (st.map fun v => v.category).sum ≤ 8) (hrm : rmok rm R mL) (hkn : k ≤ R.cells ∧ n ≤ R.slots) (d : decode cc pc = .ok (.invokevirtual idx, 3))
    (kk : ∀ v M1, XG z g w nL Qs k n (pc + 3) L (.int v :: st) M1 (K v M1)) : XG z g w nL Qs k n pc L st0 M (bnd2 O1 K) := by
  obtain ⟨T, N, hc⟩ := hc
  rw [bnd2_bind]
  exact x_callV C hM lk (fun H hP _ _ => recv_r C hr hk hc hP) hn hst hW hrm hkn d (fun b _ => kk b.1 b.2)
theorem x_Vv {O1 : Option Mem} {K : Mem → Option α} (C : Cx z l g w R cc nL own ret) (hM : CT l g w rm y bytes mL ry (.ref (w.2.2.2 + r) :: As) M finV O1) (lk : LkV own idx y bytes mL ry nA) (hr : r < w.2.2.1) (hk : w.1 r = (0, ci)) (hc : ∃ T N, vwCl[ci]? = some (y.cls, T, N)) (hn : As.length = nA) (hst : st0 = As.reverse ++ .ref (w.2.2.2 + r) :: st) (hW : (st.map fun v => v.category).sum ≤ 8) (hrm : rmok rm R mL) (hkn : k ≤ R.cells ∧ n ≤ R.slots) (d : decode cc pc = .ok (.invokevirtual idx, 3))
    (kk : ∀ M1, XG z g w nL Qs k n (pc + 3) L st M1 (K M1)) : XG z g w nL Qs k n pc L st0 M (O1.bind K) := by
  obtain ⟨T, N, hc⟩ := hc
  exact x_callV C hM lk (fun H hP _ _ => recv_r C hr hk hc hP) hn hst hW hrm hkn d (fun b _ => kk b)
theorem x_Vq {O1 : Option Int32} {K : Int32 → Option α} (C : Cx z l g w R cc nL own ret) (hM : CT l g w rm y bytes mL ry (.ref (w.2.2.2 + r) :: As) M (finQ g M) O1) (lk : LkV own idx y bytes mL ry nA) (hr : r < w.2.2.1) (hk : w.1 r = (0, ci)) (hc : ∃ T N, vwCl[ci]? = some (y.cls, T, N)) (hn : As.length = nA) (hst : st0 = As.reverse ++ .ref (w.2.2.2 + r) :: st) (hW : (st.map fun v => v.category).sum ≤ 8) (hrm : rmok rm R mL) (hkn : k ≤ R.cells ∧ n ≤ R.slots) (d : decode cc pc = .ok (.invokevirtual idx, 3))
    (kk : ∀ v, XG z g w nL Qs k n (pc + 3) L (va_rf (ths g v) :: st) M (K v)) : XG z g w nL Qs k n pc L st0 M (O1.bind K) := by
  obtain ⟨T, N, hc⟩ := hc
  exact x_callV C hM lk (fun H hP _ _ => recv_r C hr hk hc hP) hn hst hW hrm hkn d (fun b _ => kk b)
theorem x_Si {O1 : Option Int32} {K : Int32 → Option α} (C : Cx z l g w R cc nL own ret) (hM : CT l g w rm y bytes mL ry As M (finI M) O1) (lk : LkS own idx y bytes mL ry nA) (hn : As.length = nA) (hst : st0 = As.reverse ++ st) (hW : (st.map fun v => v.category).sum ≤ 8) (hrm : rmok rm R mL) (hkn : k ≤ R.cells ∧ n ≤ R.slots) (d : decode cc pc = .ok (.invokestatic idx, 3))
    (kk : ∀ v, XG z g w nL Qs k n (pc + 3) L (.int v :: st) M (K v)) : XG z g w nL Qs k n pc L st0 M (O1.bind K) :=
  x_callS C hM lk hn hst hW hrm hkn d (fun b _ => kk b)
theorem x_Sv {O1 : Option Mem} {K : Mem → Option α} (C : Cx z l g w R cc nL own ret) (hM : CT l g w rm y bytes mL ry As M finV O1) (lk : LkS own idx y bytes mL ry nA) (hn : As.length = nA) (hst : st0 = As.reverse ++ st) (hW : (st.map fun v => v.category).sum ≤ 8) (hrm : rmok rm R mL) (hkn : k ≤ R.cells ∧ n ≤ R.slots) (d : decode cc pc = .ok (.invokestatic idx, 3))
    (kk : ∀ M1, XG z g w nL Qs k n (pc + 3) L st M1 (K M1)) : XG z g w nL Qs k n pc L st0 M (O1.bind K) :=
  x_callS C hM lk hn hst hW hrm hkn d (fun b _ => kk b)
end Rows
