/-! the judgement and its rows -/
abbrev ZT : Type := Program × Launch × Env × Room × State × MethodId × Array Value × List Frame × Method × Code
abbrev zp (z : ZT) : Program := z.1
abbrev zl (z : ZT) : Launch := z.2.1
abbrev ze (z : ZT) : Env := z.2.2.1
abbrev zR (z : ZT) : Room := z.2.2.2.1
abbrev zs (z : ZT) : State := z.2.2.2.2.1
abbrev zm (z : ZT) : MethodId := z.2.2.2.2.2.1
abbrev za (z : ZT) : Array Value := z.2.2.2.2.2.2.1
abbrev zb (z : ZT) : List Frame := z.2.2.2.2.2.2.2.1
abbrev zt (z : ZT) : Method := z.2.2.2.2.2.2.2.2.1
abbrev zc (z : ZT) : Code := z.2.2.2.2.2.2.2.2.2
/-- what holds in a method all along -/
def Cx (z : ZT) (l : Launch) (g : GG) (w : WD) (R : Room) (cc : ByteArray) (nL : Nat) (own : String) (ret : Option FieldType) : Prop :=
  (zp z).tables.exec = Jvm.exec ∧ (zc z).code = cc ∧ (zc z).maxLocals = nL ∧ (zs z).vm.findClass own = some (zm z).cls ∧ (zt z).sig.returnType = ret ∧ (zt z).locks = false ∧ (∀ w ∈ lw_tbl, goodWord w = true → w.before (za z) (zs z) = true) ∧ KK g (zs z) ∧ Im g (AA w (zs z).heap.size) (zs z) (zs z).heap ∧ w.2.2.2 + w.2.2.1 ≤ (zs z).heap.size ∧ zR z = R ∧ zl z = l
def XW (z : ZT) (g : GG) (w : WD) (nL : Nat) (Q : State → Prop) (k n pc : Nat) (L : List (Option Value)) (st : List Value) (M : Mem) : Prop :=
  ∀ (H : Heap) (locs : List Loc) (ls : Array Slot), lh ls nL L → va_P g.1 vwCl (wld g w M) H → va_S (AA w (zs z).heap.size) (zs z).heap H locs →
    W (zp z) (zl z) (ze z) (zR z) (zs z) (zm z) (za z) (zb z) (zt z) (zc z) H locs k n Q (F0 (zm z) pc ls st)
def XG {α : Type} (z : ZT) (g : GG) (w : WD) (nL : Nat) (Qs : α → State → Prop) (k n pc : Nat) (L : List (Option Value)) (st : List Value) (M : Mem) (O : Option α) : Prop :=
  ∀ a, O = some a → XW z g w nL (Qs a) k n pc L st M
section Rows
variable {α : Type} {z : ZT} {l : Launch} {g : GG} {w : WD} {R : Room} {cc : ByteArray} {nL : Nat} {own : String} {ret : Option FieldType} {Qs : α → State → Prop} {k n pc : Nat} {L L' : List (Option Value)} {st : List Value} {M : Mem} {O A B : Option α}
theorem x_none : XG z g w nL Qs k n pc L st M (none : Option α) := fun _ h => by cases h
theorem x_wk (hw : lwk L L') (kk : XG z g w nL Qs k n pc L' st M O) : XG z g w nL Qs k n pc L st M O :=
  fun a h H locs ls hl hP hS => kk a h H locs ls (hl.wk hw) hP hS
theorem x_eq (h : O = A) (kk : XG z g w nL Qs k n pc L st M A) : XG z g w nL Qs k n pc L st M O := h ▸ kk
theorem x_ite {c : Prop} [Decidable c] (kt : c → XG z g w nL Qs k n pc L st M A) (kf : ¬ c → XG z g w nL Qs k n pc L st M B) : XG z g w nL Qs k n pc L st M (if c then A else B) := by
  by_cases h : c
  · rw [if_pos h]; exact kt h
  · rw [if_neg h]; exact kf h
/-- a step that changes neither world nor locals -/
theorem x_one {z : ZT} {pc' : Nat} {st' : List Value} (h : ∀ {H : Heap} {locs : List Loc} {ls : Array Slot} {Q : State → Prop}, lh ls nL L →
      W (zp z) (zl z) (ze z) (zR z) (zs z) (zm z) (za z) (zb z) (zt z) (zc z) H locs k n Q (F0 (zm z) pc' ls st') → W (zp z) (zl z) (ze z) (zR z) (zs z) (zm z) (za z) (zb z) (zt z) (zc z) H locs k n Q (F0 (zm z) pc ls st))
    (kk : XG z g w nL Qs k n pc' L st' M O) : XG z g w nL Qs k n pc L st M O :=
  fun a ha H locs ls hl hP hS => h hl (kk a ha H locs ls hl hP hS)
theorem x_iconst (C : Cx z l g w R cc nL own ret) {i : Int} {v : Int32} (d : decode cc pc = .ok (.iconst i, 1)) (hv : Int32.ofInt i = v) (kk : XG z g w nL Qs k n (pc + 1) L (.int v :: st) M O) : XG z g w nL Qs k n pc L st M O :=
  x_one (fun _ v9 => lv_iconst C.1 C.2.1 d hv v9) kk
theorem x_bipush (C : Cx z l g w R cc nL own ret) {i : Int} {v : Int32} (d : decode cc pc = .ok (.bipush i, 2)) (hv : (Int8.ofInt i).toInt32 = v) (kk : XG z g w nL Qs k n (pc + 2) L (.int v :: st) M O) : XG z g w nL Qs k n pc L st M O :=
  x_one (fun _ v9 => lv_bipush C.1 C.2.1 d hv v9) kk
theorem x_sipush (C : Cx z l g w R cc nL own ret) {i : Int} {v : Int32} (d : decode cc pc = .ok (.sipush i, 3)) (hv : (Int16.ofInt i).toInt32 = v) (kk : XG z g w nL Qs k n (pc + 3) L (.int v :: st) M O) : XG z g w nL Qs k n pc L st M O :=
  x_one (fun _ v9 => lv_sipush C.1 C.2.1 d hv v9) kk
theorem x_hts (C : Cx z l g w R cc nL own ret) {c9 : Cond} (h : c9 ∈ lw_tbl) (hg : goodWord c9 = true) : c9.before (za z) (zs z) = true := C.2.2.2.2.2.2.1 _ h hg
theorem x_ldc (C : Cx z l g w R cc nL own ret) {i : Nat} {v : Int32} (d : decode cc pc = .ok (.ldc i, 2)) (hw : Cond.constant own i v ∈ lw_tbl) (kk : XG z g w nL Qs k n (pc + 2) L (.int v :: st) M O) : XG z g w nL Qs k n pc L st M O :=
  x_one (fun _ v9 => lv_ldc C.1 C.2.1 C.2.2.2.1 (x_hts C hw rfl) d v9) kk
theorem x_ldcw (C : Cx z l g w R cc nL own ret) {i : Nat} {v : Int32} (d : decode cc pc = .ok (.ldc_w i, 3)) (hw : Cond.constant own i v ∈ lw_tbl) (kk : XG z g w nL Qs k n (pc + 3) L (.int v :: st) M O) : XG z g w nL Qs k n pc L st M O :=
  x_one (fun _ v9 => lv_ldcw C.1 C.2.1 C.2.2.2.1 (x_hts C hw rfl) d v9) kk
theorem x_iloadn (C : Cx z l g w R cc nL own ret) {i : Fin 4} {x : Int32} (d : decode cc pc = .ok (.iload_n i, 1)) (hl : L[i.val]? = some (some (.int x))) (kk : XG z g w nL Qs k n (pc + 1) L (.int x :: st) M O) : XG z g w nL Qs k n pc L st M O :=
  x_one (fun h v9 => lv_iload_n C.1 C.2.1 d rfl (h.at hl) v9) kk
theorem x_iload (C : Cx z l g w R cc nL own ret) {i : Nat} {x : Int32} (d : decode cc pc = .ok (.iload i, 2)) (hl : L[i]? = some (some (.int x))) (kk : XG z g w nL Qs k n (pc + 2) L (.int x :: st) M O) : XG z g w nL Qs k n pc L st M O :=
  x_one (fun h v9 => lv_iload C.1 C.2.1 d (h.at hl) v9) kk
theorem x_aloadn (C : Cx z l g w R cc nL own ret) {i : Fin 4} {a : Nat} (d : decode cc pc = .ok (.aload_n i, 1)) (hl : L[i.val]? = some (some (.ref a))) (kk : XG z g w nL Qs k n (pc + 1) L (.ref a :: st) M O) : XG z g w nL Qs k n pc L st M O :=
  x_one (fun h v9 => lv_aload_n C.1 C.2.1 d rfl (h.at hl) v9) kk
theorem x_aload (C : Cx z l g w R cc nL own ret) {i : Nat} {a : Nat} (d : decode cc pc = .ok (.aload i, 2)) (hl : L[i]? = some (some (.ref a))) (kk : XG z g w nL Qs k n (pc + 2) L (.ref a :: st) M O) : XG z g w nL Qs k n pc L st M O :=
  x_one (fun h v9 => lv_aload C.1 C.2.1 d (h.at hl) v9) kk
theorem x_qloadn (C : Cx z l g w R cc nL own ret) {i : Fin 4} {o : Option Nat} (d : decode cc pc = .ok (.aload_n i, 1)) (hl : L[i.val]? = some (some (va_rf o))) (kk : XG z g w nL Qs k n (pc + 1) L (va_rf o :: st) M O) : XG z g w nL Qs k n pc L st M O := by
  cases o with
  | none => exact x_one (fun h v9 => lv_aload_nN C.1 C.2.1 d rfl (h.at hl) v9) kk
  | some a => exact x_one (fun h v9 => lv_aload_n C.1 C.2.1 d rfl (h.at hl) v9) kk
/-- a step that stores a local -/
theorem x_stg {z : ZT} {pc' i : Nat} {v : Value} {st' : List Value} (hi : i < L.length) (hc : v.category = 1) (hL : L.set i (some v) = L') (h : ∀ {H : Heap} {locs : List Loc} {ls : Array Slot} {Q : State → Prop}, lh ls nL L → i < nL →
      (∀ ls' : Array Slot, lv_has ls' nL ((i, v) :: (lpl L).filter (fun q => !(q.1 == i) && !(q.1 + 1 == i && q.2.category == 2))) → W (zp z) (zl z) (ze z) (zR z) (zs z) (zm z) (za z) (zb z) (zt z) (zc z) H locs k n Q (F0 (zm z) pc' ls' st')) → W (zp z) (zl z) (ze z) (zR z) (zs z) (zm z) (za z) (zb z) (zt z) (zc z) H locs k n Q (F0 (zm z) pc ls st))
    (kk : XG z g w nL Qs k n pc' L' st' M O) : XG z g w nL Qs k n pc L st M O :=
  fun a ha H locs ls hl hP hS => by
    have hi' : i < nL := by rw [← hl.2.2.1]; exact hi
    exact h hl hi' (fun ls' h' => kk a ha H locs ls' (hl.st hi' hc h' hL) hP hS)
theorem x_istoren (C : Cx z l g w R cc nL own ret) {i : Fin 4} {x : Int32} (d : decode cc pc = .ok (.istore_n i, 1)) (hi : i.val < L.length) (hL : L.set i.val (some (.int x)) = L') (kk : XG z g w nL Qs k n (pc + 1) L' st M O) : XG z g w nL Qs k n pc L (.int x :: st) M O :=
  x_stg hi rfl hL (fun h hn v9 => lv_istore_n C.1 C.2.1 d rfl h.has hn rfl v9) kk
theorem x_istore (C : Cx z l g w R cc nL own ret) {i : Nat} {x : Int32} (d : decode cc pc = .ok (.istore i, 2)) (hi : i < L.length) (hL : L.set i (some (.int x)) = L') (kk : XG z g w nL Qs k n (pc + 2) L' st M O) : XG z g w nL Qs k n pc L (.int x :: st) M O :=
  x_stg hi rfl hL (fun h hn v9 => lv_istore C.1 C.2.1 d h.has hn rfl v9) kk
theorem x_astoren (C : Cx z l g w R cc nL own ret) {i : Fin 4} {a : Nat} (d : decode cc pc = .ok (.astore_n i, 1)) (hi : i.val < L.length) (hL : L.set i.val (some (.ref a)) = L') (kk : XG z g w nL Qs k n (pc + 1) L' st M O) : XG z g w nL Qs k n pc L (.ref a :: st) M O :=
  x_stg hi rfl hL (fun h hn v9 => lv_astore_n C.1 C.2.1 d rfl h.has hn rfl v9) kk
theorem x_astore (C : Cx z l g w R cc nL own ret) {i : Nat} {a : Nat} (d : decode cc pc = .ok (.astore i, 2)) (hi : i < L.length) (hL : L.set i (some (.ref a)) = L') (kk : XG z g w nL Qs k n (pc + 2) L' st M O) : XG z g w nL Qs k n pc L (.ref a :: st) M O :=
  x_stg hi rfl hL (fun h hn v9 => lv_astore C.1 C.2.1 d h.has hn rfl v9) kk
theorem x_qstoren (C : Cx z l g w R cc nL own ret) {i : Fin 4} {o : Option Nat} (d : decode cc pc = .ok (.astore_n i, 1)) (hi : i.val < L.length) (hL : L.set i.val (some (va_rf o)) = L') (kk : XG z g w nL Qs k n (pc + 1) L' st M O) : XG z g w nL Qs k n pc L (va_rf o :: st) M O := by
  cases o with
  | none => exact x_stg hi rfl hL (fun h hn v9 => lv_astore_nN C.1 C.2.1 d rfl h.has hn rfl v9) kk
  | some a => exact x_stg hi rfl hL (fun h hn v9 => lv_astore_n C.1 C.2.1 d rfl h.has hn rfl v9) kk
theorem x_iinc (C : Cx z l g w R cc nL own ret) {i : Nat} {j : Int} {x v : Int32} (d : decode cc pc = .ok (.iinc i j, 3)) (hl : L[i]? = some (some (.int x))) (hv : x + Int32.ofInt j = v) (hL : L.set i (some (.int v)) = L') (kk : XG z g w nL Qs k n (pc + 3) L' st M O) : XG z g w nL Qs k n pc L st M O :=
  x_stg (List.getElem?_eq_some_iff.mp hl).1 rfl hL (fun h hn v9 => by
    obtain ⟨q, hq⟩ := List.getElem?_of_mem (lpl_mem.mpr hl)
    exact lv_iinc C.1 C.2.1 d h.has hq hv hn rfl v9) kk
theorem x_iadd (C : Cx z l g w R cc nL own ret) {x y : Int32} (d : decode cc pc = .ok (.iadd, 1)) (kk : XG z g w nL Qs k n (pc + 1) L (.int (x + y) :: st) M O) : XG z g w nL Qs k n pc L (.int y :: .int x :: st) M O := x_one (fun _ v9 => lv_iadd C.1 C.2.1 d v9) kk
theorem x_isub (C : Cx z l g w R cc nL own ret) {x y : Int32} (d : decode cc pc = .ok (.isub, 1)) (kk : XG z g w nL Qs k n (pc + 1) L (.int (x - y) :: st) M O) : XG z g w nL Qs k n pc L (.int y :: .int x :: st) M O := x_one (fun _ v9 => lv_isub C.1 C.2.1 d v9) kk
theorem x_imul (C : Cx z l g w R cc nL own ret) {x y : Int32} (d : decode cc pc = .ok (.imul, 1)) (kk : XG z g w nL Qs k n (pc + 1) L (.int (x * y) :: st) M O) : XG z g w nL Qs k n pc L (.int y :: .int x :: st) M O := x_one (fun _ v9 => lv_imul C.1 C.2.1 d v9) kk
theorem x_iand (C : Cx z l g w R cc nL own ret) {x y : Int32} (d : decode cc pc = .ok (.iand, 1)) (kk : XG z g w nL Qs k n (pc + 1) L (.int (x &&& y) :: st) M O) : XG z g w nL Qs k n pc L (.int y :: .int x :: st) M O := x_one (fun _ v9 => lv_iand C.1 C.2.1 d v9) kk
theorem x_ior (C : Cx z l g w R cc nL own ret) {x y : Int32} (d : decode cc pc = .ok (.ior, 1)) (kk : XG z g w nL Qs k n (pc + 1) L (.int (x ||| y) :: st) M O) : XG z g w nL Qs k n pc L (.int y :: .int x :: st) M O := x_one (fun _ v9 => lv_ior C.1 C.2.1 d v9) kk
theorem x_ixor (C : Cx z l g w R cc nL own ret) {x y : Int32} (d : decode cc pc = .ok (.ixor, 1)) (kk : XG z g w nL Qs k n (pc + 1) L (.int (x ^^^ y) :: st) M O) : XG z g w nL Qs k n pc L (.int y :: .int x :: st) M O := x_one (fun _ v9 => lv_ixor C.1 C.2.1 d v9) kk
theorem x_ineg (C : Cx z l g w R cc nL own ret) {x : Int32} (d : decode cc pc = .ok (.ineg, 1)) (kk : XG z g w nL Qs k n (pc + 1) L (.int (-x) :: st) M O) : XG z g w nL Qs k n pc L (.int x :: st) M O := x_one (fun _ v9 => lv_ineg C.1 C.2.1 d v9) kk
theorem x_ishl (C : Cx z l g w R cc nL own ret) {x y : Int32} (d : decode cc pc = .ok (.ishl, 1)) (kk : XG z g w nL Qs k n (pc + 1) L (.int (x <<< (y &&& 31)) :: st) M O) : XG z g w nL Qs k n pc L (.int y :: .int x :: st) M O := x_one (fun _ v9 => lv_ishl C.1 C.2.1 d v9) kk
theorem x_ishr (C : Cx z l g w R cc nL own ret) {x y : Int32} (d : decode cc pc = .ok (.ishr, 1)) (kk : XG z g w nL Qs k n (pc + 1) L (.int (x >>> (y &&& 31)) :: st) M O) : XG z g w nL Qs k n pc L (.int y :: .int x :: st) M O := x_one (fun _ v9 => lv_ishr C.1 C.2.1 d v9) kk
def iushr (x y : Int32) : Int32 := (x.toUInt32 >>> (y.toUInt32 &&& Int32.toUInt32 31)).toInt32
theorem x_iushr (C : Cx z l g w R cc nL own ret) {x y : Int32} (d : decode cc pc = .ok (.iushr, 1)) (kk : XG z g w nL Qs k n (pc + 1) L (.int (iushr x y) :: st) M O) : XG z g w nL Qs k n pc L (.int y :: .int x :: st) M O := x_one (fun _ v9 => lv_iushr C.1 C.2.1 d rfl v9) kk
def irem (x y : Int32) : Int32 := x - x / y * y
theorem x_idiv (C : Cx z l g w R cc nL own ret) {x y : Int32} (d : decode cc pc = .ok (.idiv, 1)) (hy : ¬ y = 0) (kk : XG z g w nL Qs k n (pc + 1) L (.int (x / y) :: st) M O) : XG z g w nL Qs k n pc L (.int y :: .int x :: st) M O := x_one (fun _ v9 => lv_idiv C.1 C.2.1 d hy v9) kk
theorem x_irem (C : Cx z l g w R cc nL own ret) {x y : Int32} (d : decode cc pc = .ok (.irem, 1)) (hy : ¬ y = 0) (kk : XG z g w nL Qs k n (pc + 1) L (.int (irem x y) :: st) M O) : XG z g w nL Qs k n pc L (.int y :: .int x :: st) M O := x_one (fun _ v9 => lv_irem C.1 C.2.1 d hy v9) kk
/-- a test that a run must pass -/
def chk {α : Type} (b : Bool) (o : Option α) : Option α := match b with
  | true => o
  | false => none
theorem chk_some {α : Type} {b : Bool} {o : Option α} {a : α} (h : chk b o = some a) : b = true ∧ o = some a := by
  cases b with
  | true => exact ⟨rfl, h⟩
  | false => cases h
theorem x_chk {b : Bool} (kk : b = true → XG z g w nL Qs k n pc L st M O) : XG z g w nL Qs k n pc L st M (chk b O) := fun a h => kk (chk_some h).1 a (chk_some h).2
theorem x_idivc (C : Cx z l g w R cc nL own ret) {x y : Int32} (d : decode cc pc = .ok (.idiv, 1)) (kk : XG z g w nL Qs k n (pc + 1) L (.int (x / y) :: st) M O) : XG z g w nL Qs k n pc L (.int y :: .int x :: st) M (chk (!(y == 0)) O) :=
  x_chk fun h => x_idiv C d (fun e => by subst e; exact absurd h (by decide)) kk
theorem x_iremc (C : Cx z l g w R cc nL own ret) {x y : Int32} (d : decode cc pc = .ok (.irem, 1)) (kk : XG z g w nL Qs k n (pc + 1) L (.int (irem x y) :: st) M O) : XG z g w nL Qs k n pc L (.int y :: .int x :: st) M (chk (!(y == 0)) O) :=
  x_chk fun h => x_irem C d (fun e => by subst e; exact absurd h (by decide)) kk
theorem x_i2l (C : Cx z l g w R cc nL own ret) {x : Int32} (d : decode cc pc = .ok (.i2l, 1)) (kk : XG z g w nL Qs k n (pc + 1) L (.long x.toInt64 :: st) M O) : XG z g w nL Qs k n pc L (.int x :: st) M O := x_one (fun _ v9 => lv_i2l C.1 C.2.1 d rfl v9) kk
theorem x_dup (C : Cx z l g w R cc nL own ret) {v : Value} (d : decode cc pc = .ok (.dup, 1)) (hv : v.category = 1) (kk : XG z g w nL Qs k n (pc + 1) L (v :: v :: st) M O) : XG z g w nL Qs k n pc L (v :: st) M O := x_one (fun _ v9 => lv_dup C.1 C.2.1 d hv v9) kk
theorem x_dup2 (C : Cx z l g w R cc nL own ret) {v u : Value} (d : decode cc pc = .ok (.dup2, 1)) (hv : v.category = 1) (hu : u.category = 1) (kk : XG z g w nL Qs k n (pc + 1) L (v :: u :: v :: u :: st) M O) : XG z g w nL Qs k n pc L (v :: u :: st) M O := x_one (fun _ v9 => lv_dup2_11 C.1 C.2.1 d hv hu v9) kk
theorem x_pop (C : Cx z l g w R cc nL own ret) {v : Value} (d : decode cc pc = .ok (.pop, 1)) (hv : v.category = 1) (kk : XG z g w nL Qs k n (pc + 1) L st M O) : XG z g w nL Qs k n pc L (v :: st) M O := x_one (fun _ v9 => lv_pop C.1 C.2.1 d hv v9) kk
theorem x_goto (C : Cx z l g w R cc nL own ret) {off : Int} {tgt : Nat} (d : decode cc pc = .ok (.goto off, 3)) (ht : (pc : Int) + off = (tgt : Int)) (kk : XG z g w nL Qs k n tgt L st M O) : XG z g w nL Qs k n pc L st M O := x_one (fun _ v9 => lv_goto C.1 C.2.1 d ht v9) kk
/-- a branch -/
theorem x_br {z : ZT} {c : Prop} [Decidable c] {tgt : Nat} {stA : List Value} (h : ∀ {H : Heap} {locs : List Loc} {ls : Array Slot} {Q : State → Prop},
      (c → W (zp z) (zl z) (ze z) (zR z) (zs z) (zm z) (za z) (zb z) (zt z) (zc z) H locs k n Q (F0 (zm z) tgt ls st)) → (¬ c → W (zp z) (zl z) (ze z) (zR z) (zs z) (zm z) (za z) (zb z) (zt z) (zc z) H locs k n Q (F0 (zm z) (pc + 3) ls st)) → W (zp z) (zl z) (ze z) (zR z) (zs z) (zm z) (za z) (zb z) (zt z) (zc z) H locs k n Q (F0 (zm z) pc ls stA))
    (kt : c → XG z g w nL Qs k n tgt L st M A) (kf : ¬ c → XG z g w nL Qs k n (pc + 3) L st M B) : XG z g w nL Qs k n pc L stA M (if c then A else B) := fun a ha H locs ls hl hP hS => by
  by_cases hc : c
  · rw [if_pos hc] at ha
    exact h (fun q => kt q a ha H locs ls hl hP hS) (fun q => absurd hc q)
  · rw [if_neg hc] at ha
    exact h (fun q => absurd q hc) (fun q => kf q a ha H locs ls hl hP hS)
theorem x_brn {z : ZT} {c : Prop} [Decidable c] {tgt : Nat} {stA : List Value} (h : ∀ {H : Heap} {locs : List Loc} {ls : Array Slot} {Q : State → Prop},
      (¬ c → W (zp z) (zl z) (ze z) (zR z) (zs z) (zm z) (za z) (zb z) (zt z) (zc z) H locs k n Q (F0 (zm z) tgt ls st)) → (c → W (zp z) (zl z) (ze z) (zR z) (zs z) (zm z) (za z) (zb z) (zt z) (zc z) H locs k n Q (F0 (zm z) (pc + 3) ls st)) → W (zp z) (zl z) (ze z) (zR z) (zs z) (zm z) (za z) (zb z) (zt z) (zc z) H locs k n Q (F0 (zm z) pc ls stA))
    (kt : ¬ c → XG z g w nL Qs k n tgt L st M B) (kf : c → XG z g w nL Qs k n (pc + 3) L st M A) : XG z g w nL Qs k n pc L stA M (if c then A else B) := fun a ha H locs ls hl hP hS => by
  by_cases hc : c
  · rw [if_pos hc] at ha
    exact h (fun q => absurd hc q) (fun q => kf q a ha H locs ls hl hP hS)
  · rw [if_neg hc] at ha
    exact h (fun q => kt q a ha H locs ls hl hP hS) (fun q => absurd q hc)
theorem nlt_le {x y : Int32} : y ≤ x ↔ ¬ x < y := Int32.not_lt.symm
theorem x_ifeq (C : Cx z l g w R cc nL own ret) {x : Int32} {off : Int} {tgt : Nat} (d : decode cc pc = .ok (.ifCond .eq off, 3)) (ht : (pc : Int) + off = (tgt : Int)) (kt : x = 0 → XG z g w nL Qs k n tgt L st M A) (kf : ¬ x = 0 → XG z g w nL Qs k n (pc + 3) L st M B) : XG z g w nL Qs k n pc L (.int x :: st) M (if x = 0 then A else B) := x_br (fun a b => lv_if_eq C.1 C.2.1 d ht a b) kt kf
theorem x_ifne (C : Cx z l g w R cc nL own ret) {x : Int32} {off : Int} {tgt : Nat} (d : decode cc pc = .ok (.ifCond .ne off, 3)) (ht : (pc : Int) + off = (tgt : Int)) (kt : ¬ x = 0 → XG z g w nL Qs k n tgt L st M B) (kf : x = 0 → XG z g w nL Qs k n (pc + 3) L st M A) : XG z g w nL Qs k n pc L (.int x :: st) M (if x = 0 then A else B) := x_brn (fun a b => lv_if_ne C.1 C.2.1 d ht a (fun h => b h)) kt kf
theorem x_iflt (C : Cx z l g w R cc nL own ret) {x : Int32} {off : Int} {tgt : Nat} (d : decode cc pc = .ok (.ifCond .lt off, 3)) (ht : (pc : Int) + off = (tgt : Int)) (kt : x < 0 → XG z g w nL Qs k n tgt L st M A) (kf : ¬ x < 0 → XG z g w nL Qs k n (pc + 3) L st M B) : XG z g w nL Qs k n pc L (.int x :: st) M (if x < 0 then A else B) := x_br (fun a b => lv_if_lt C.1 C.2.1 d ht a b) kt kf
theorem x_ifge (C : Cx z l g w R cc nL own ret) {x : Int32} {off : Int} {tgt : Nat} (d : decode cc pc = .ok (.ifCond .ge off, 3)) (ht : (pc : Int) + off = (tgt : Int)) (kt : ¬ x < 0 → XG z g w nL Qs k n tgt L st M B) (kf : x < 0 → XG z g w nL Qs k n (pc + 3) L st M A) : XG z g w nL Qs k n pc L (.int x :: st) M (if x < 0 then A else B) := x_brn (fun a b => lv_if_ge C.1 C.2.1 d ht (fun h => a (nlt_le.mp h)) (fun h => b (Classical.not_not.mp (fun q => h (nlt_le.mpr q))))) kt kf
theorem x_ifgt (C : Cx z l g w R cc nL own ret) {x : Int32} {off : Int} {tgt : Nat} (d : decode cc pc = .ok (.ifCond .gt off, 3)) (ht : (pc : Int) + off = (tgt : Int)) (kt : 0 < x → XG z g w nL Qs k n tgt L st M A) (kf : ¬ 0 < x → XG z g w nL Qs k n (pc + 3) L st M B) : XG z g w nL Qs k n pc L (.int x :: st) M (if 0 < x then A else B) := x_br (fun a b => lv_if_gt C.1 C.2.1 d ht a b) kt kf
theorem x_ifle (C : Cx z l g w R cc nL own ret) {x : Int32} {off : Int} {tgt : Nat} (d : decode cc pc = .ok (.ifCond .le off, 3)) (ht : (pc : Int) + off = (tgt : Int)) (kt : ¬ 0 < x → XG z g w nL Qs k n tgt L st M B) (kf : 0 < x → XG z g w nL Qs k n (pc + 3) L st M A) : XG z g w nL Qs k n pc L (.int x :: st) M (if 0 < x then A else B) := x_brn (fun a b => lv_if_le C.1 C.2.1 d ht (fun h => a (nlt_le.mp h)) (fun h => b (Classical.not_not.mp (fun q => h (nlt_le.mpr q))))) kt kf
theorem x_icmpeq (C : Cx z l g w R cc nL own ret) {x y : Int32} {off : Int} {tgt : Nat} (d : decode cc pc = .ok (.if_icmp .eq off, 3)) (ht : (pc : Int) + off = (tgt : Int)) (kt : x = y → XG z g w nL Qs k n tgt L st M A) (kf : ¬ x = y → XG z g w nL Qs k n (pc + 3) L st M B) : XG z g w nL Qs k n pc L (.int y :: .int x :: st) M (if x = y then A else B) := x_br (fun a b => lv_icmp_eq C.1 C.2.1 d ht a b) kt kf
theorem x_icmpne (C : Cx z l g w R cc nL own ret) {x y : Int32} {off : Int} {tgt : Nat} (d : decode cc pc = .ok (.if_icmp .ne off, 3)) (ht : (pc : Int) + off = (tgt : Int)) (kt : ¬ x = y → XG z g w nL Qs k n tgt L st M B) (kf : x = y → XG z g w nL Qs k n (pc + 3) L st M A) : XG z g w nL Qs k n pc L (.int y :: .int x :: st) M (if x = y then A else B) := x_brn (fun a b => lv_icmp_ne C.1 C.2.1 d ht a (fun h => b h)) kt kf
theorem x_icmplt (C : Cx z l g w R cc nL own ret) {x y : Int32} {off : Int} {tgt : Nat} (d : decode cc pc = .ok (.if_icmp .lt off, 3)) (ht : (pc : Int) + off = (tgt : Int)) (kt : x < y → XG z g w nL Qs k n tgt L st M A) (kf : ¬ x < y → XG z g w nL Qs k n (pc + 3) L st M B) : XG z g w nL Qs k n pc L (.int y :: .int x :: st) M (if x < y then A else B) := x_br (fun a b => lv_icmp_lt C.1 C.2.1 d ht a b) kt kf
theorem x_icmpge (C : Cx z l g w R cc nL own ret) {x y : Int32} {off : Int} {tgt : Nat} (d : decode cc pc = .ok (.if_icmp .ge off, 3)) (ht : (pc : Int) + off = (tgt : Int)) (kt : ¬ x < y → XG z g w nL Qs k n tgt L st M B) (kf : x < y → XG z g w nL Qs k n (pc + 3) L st M A) : XG z g w nL Qs k n pc L (.int y :: .int x :: st) M (if x < y then A else B) := x_brn (fun a b => lv_icmp_ge C.1 C.2.1 d ht (fun h => a (nlt_le.mp h)) (fun h => b (Classical.not_not.mp (fun q => h (nlt_le.mpr q))))) kt kf
theorem x_icmpgt (C : Cx z l g w R cc nL own ret) {x y : Int32} {off : Int} {tgt : Nat} (d : decode cc pc = .ok (.if_icmp .gt off, 3)) (ht : (pc : Int) + off = (tgt : Int)) (kt : y < x → XG z g w nL Qs k n tgt L st M A) (kf : ¬ y < x → XG z g w nL Qs k n (pc + 3) L st M B) : XG z g w nL Qs k n pc L (.int y :: .int x :: st) M (if y < x then A else B) := x_br (fun a b => lv_icmp_gt C.1 C.2.1 d ht a b) kt kf
theorem x_icmple (C : Cx z l g w R cc nL own ret) {x y : Int32} {off : Int} {tgt : Nat} (d : decode cc pc = .ok (.if_icmp .le off, 3)) (ht : (pc : Int) + off = (tgt : Int)) (kt : ¬ y < x → XG z g w nL Qs k n tgt L st M B) (kf : y < x → XG z g w nL Qs k n (pc + 3) L st M A) : XG z g w nL Qs k n pc L (.int y :: .int x :: st) M (if y < x then A else B) := x_brn (fun a b => lv_icmp_le C.1 C.2.1 d ht (fun h => a (nlt_le.mp h)) (fun h => b (Classical.not_not.mp (fun q => h (nlt_le.mpr q))))) kt kf
end Rows
