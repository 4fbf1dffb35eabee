/-! rows of the law's own body: its world lies above where it began -/
def YG (z : ZT) (g : GG) (b nL : Nat) (Q : State → Prop) (k n pc : Nat) (L : List (Option Value)) (st : List Value) (M : Mem) : Prop := XG (α := Unit) z g (wL b) nL (fun _ => Q) k n pc L st M (some ())
def LkH (own : String) (idx : Nat) (y : MethodName) (cc : ByteArray) (nL : Nat) (hh : List (Nat × Nat × Nat × Nat)) (nA : Nat) : Prop :=
  Cond.codeWith y cc nL (some .int) hh ∈ lw_tbl ∧ Cond.initialized y.cls ∈ lw_tbl ∧ Cond.methodLink own idx y ∈ lw_tbl ∧ Cond.static y ∈ lw_tbl ∧ (y.cls ≠ "java/lang/invoke/MethodHandle" ∧ y.cls ≠ "java/lang/invoke/VarHandle") ∧ (parseMethodDescriptor y.desc).map (fun d => d.parameters.length) = some nA
theorem ofN_add (i k : Nat) : Int32.ofNat i + Int32.ofNat k = Int32.ofNat (i + k) := (Int32.ofNat_add i k).symm
section Rows
variable {z : ZT} {l : Launch} {g : GG} {b : Nat} {R : Room} {cc : ByteArray} {nL : Nat} {own : String} {ret : Option FieldType} {Q : State → Prop} {k n pc : Nat} {L L' : List (Option Value)} {st : List Value} {M : Mem}
theorem y_hts (C : CxK z l g b 0 R cc nL own ret) {c9 : Cond} (h : c9 ∈ lw_tbl) (hg : goodWord c9 = true) : c9.before (za z) (zs z) = true := C.2.2.2.2.2.2.1 _ h hg
theorem y_htg (C : CxK z l g b 0 R cc nL own ret) : ∀ c ∈ Tg, c.before (za z) (zs z) = true := fun c h => y_hts C (List.mem_filter.mp h).1 (List.mem_filter.mp h).2
theorem y_iconst (C : CxK z l g b 0 R cc nL own ret) {i : Int} {v : Int32} (d : decode cc pc = .ok (.iconst i, 1)) (hv : Int32.ofInt i = v) (kk : YG z g b nL Q k n (pc + 1) L (.int v :: st) M) : YG z g b nL Q k n pc L st M := x_one (fun _ w => lv_iconst C.1 C.2.1 d hv w) kk
theorem y_bipush (C : CxK z l g b 0 R cc nL own ret) {i : Int} {v : Int32} (d : decode cc pc = .ok (.bipush i, 2)) (hv : (Int8.ofInt i).toInt32 = v) (kk : YG z g b nL Q k n (pc + 2) L (.int v :: st) M) : YG z g b nL Q k n pc L st M := x_one (fun _ w => lv_bipush C.1 C.2.1 d hv w) kk
theorem y_iload (C : CxK z l g b 0 R cc nL own ret) {i : Nat} {x : Int32} (d : decode cc pc = .ok (.iload i, 2)) (hl : L[i]? = some (some (.int x))) (kk : YG z g b nL Q k n (pc + 2) L (.int x :: st) M) : YG z g b nL Q k n pc L st M := x_one (fun h w => lv_iload C.1 C.2.1 d (h.at hl) w) kk
theorem y_aloadn (C : CxK z l g b 0 R cc nL own ret) {i : Fin 4} {a : Nat} (d : decode cc pc = .ok (.aload_n i, 1)) (hl : L[i.val]? = some (some (.ref a))) (kk : YG z g b nL Q k n (pc + 1) L (.ref a :: st) M) : YG z g b nL Q k n pc L st M := x_one (fun h w => lv_aload_n C.1 C.2.1 d rfl (h.at hl) w) kk
theorem y_istore (C : CxK z l g b 0 R cc nL own ret) {i : Nat} {x : Int32} (d : decode cc pc = .ok (.istore i, 2)) (hi : i < L.length) (hL : L.set i (some (.int x)) = L') (kk : YG z g b nL Q k n (pc + 2) L' st M) : YG z g b nL Q k n pc L (.int x :: st) M :=
  x_stg hi rfl hL (fun h hn w => lv_istore C.1 C.2.1 d h.has hn rfl w) kk
theorem y_iinc (C : CxK z l g b 0 R cc nL own ret) {i : Nat} {j : Int} {x v : Int32} (d : decode cc pc = .ok (.iinc i j, 3)) (hl : L[i]? = some (some (.int x))) (hv : x + Int32.ofInt j = v) (hL : L.set i (some (.int v)) = L') (kk : YG z g b nL Q k n (pc + 3) L' st M) : YG z g b nL Q k n pc L st M :=
  x_stg (List.getElem?_eq_some_iff.mp hl).1 rfl hL (fun h hn w => by
    obtain ⟨q, hq⟩ := List.getElem?_of_mem (lpl_mem.mpr hl)
    exact lv_iinc C.1 C.2.1 d h.has hq hv hn rfl w) kk
theorem y_iadd (C : CxK z l g b 0 R cc nL own ret) {x y : Int32} (d : decode cc pc = .ok (.iadd, 1)) (kk : YG z g b nL Q k n (pc + 1) L (.int (x + y) :: st) M) : YG z g b nL Q k n pc L (.int y :: .int x :: st) M := x_one (fun _ w => lv_iadd C.1 C.2.1 d w) kk
theorem y_isub (C : CxK z l g b 0 R cc nL own ret) {x y : Int32} (d : decode cc pc = .ok (.isub, 1)) (kk : YG z g b nL Q k n (pc + 1) L (.int (x - y) :: st) M) : YG z g b nL Q k n pc L (.int y :: .int x :: st) M := x_one (fun _ w => lv_isub C.1 C.2.1 d w) kk
theorem y_iand (C : CxK z l g b 0 R cc nL own ret) {x y : Int32} (d : decode cc pc = .ok (.iand, 1)) (kk : YG z g b nL Q k n (pc + 1) L (.int (x &&& y) :: st) M) : YG z g b nL Q k n pc L (.int y :: .int x :: st) M := x_one (fun _ w => lv_iand C.1 C.2.1 d w) kk
theorem y_i2l (C : CxK z l g b 0 R cc nL own ret) {x : Int32} (d : decode cc pc = .ok (.i2l, 1)) (kk : YG z g b nL Q k n (pc + 1) L (.long x.toInt64 :: st) M) : YG z g b nL Q k n pc L (.int x :: st) M := x_one (fun _ w => lv_i2l C.1 C.2.1 d rfl w) kk
theorem y_goto (C : CxK z l g b 0 R cc nL own ret) {off : Int} {tgt : Nat} (d : decode cc pc = .ok (.goto off, 3)) (ht : (pc : Int) + off = (tgt : Int)) (kk : YG z g b nL Q k n tgt L st M) : YG z g b nL Q k n pc L st M := x_one (fun _ w => lv_goto C.1 C.2.1 d ht w) kk
theorem y_ifeqT (C : CxK z l g b 0 R cc nL own ret) {x : Int32} {off : Int} {tgt : Nat} (d : decode cc pc = .ok (.ifCond .eq off, 3)) (ht : (pc : Int) + off = (tgt : Int)) (h : x = 0) (kk : YG z g b nL Q k n tgt L st M) : YG z g b nL Q k n pc L (.int x :: st) M := x_one (fun _ w => lv_if_eq C.1 C.2.1 d ht (fun _ => w) (fun h2 => absurd h h2)) kk
theorem y_ifeqF (C : CxK z l g b 0 R cc nL own ret) {x : Int32} {off : Int} {tgt : Nat} (d : decode cc pc = .ok (.ifCond .eq off, 3)) (ht : (pc : Int) + off = (tgt : Int)) (h : ¬ x = 0) (kk : YG z g b nL Q k n (pc + 3) L st M) : YG z g b nL Q k n pc L (.int x :: st) M := x_one (fun _ w => lv_if_eq C.1 C.2.1 d ht (fun h2 => absurd h2 h) (fun _ => w)) kk
theorem y_ifneT (C : CxK z l g b 0 R cc nL own ret) {x : Int32} {off : Int} {tgt : Nat} (d : decode cc pc = .ok (.ifCond .ne off, 3)) (ht : (pc : Int) + off = (tgt : Int)) (h : ¬ x = 0) (kk : YG z g b nL Q k n tgt L st M) : YG z g b nL Q k n pc L (.int x :: st) M := x_one (fun _ w => lv_if_ne C.1 C.2.1 d ht (fun _ => w) (fun h2 => absurd h2 h)) kk
theorem y_ifneF (C : CxK z l g b 0 R cc nL own ret) {x : Int32} {off : Int} {tgt : Nat} (d : decode cc pc = .ok (.ifCond .ne off, 3)) (ht : (pc : Int) + off = (tgt : Int)) (h : x = 0) (kk : YG z g b nL Q k n (pc + 3) L st M) : YG z g b nL Q k n pc L (.int x :: st) M := x_one (fun _ w => lv_if_ne C.1 C.2.1 d ht (fun h2 => absurd h h2) (fun _ => w)) kk
theorem y_icmpeqT (C : CxK z l g b 0 R cc nL own ret) {x y : Int32} {off : Int} {tgt : Nat} (d : decode cc pc = .ok (.if_icmp .eq off, 3)) (ht : (pc : Int) + off = (tgt : Int)) (h : x = y) (kk : YG z g b nL Q k n tgt L st M) : YG z g b nL Q k n pc L (.int y :: .int x :: st) M := x_one (fun _ w => lv_icmp_eq C.1 C.2.1 d ht (fun _ => w) (fun h2 => absurd h h2)) kk
theorem y_icmpgtT (C : CxK z l g b 0 R cc nL own ret) {x y : Int32} {off : Int} {tgt : Nat} (d : decode cc pc = .ok (.if_icmp .gt off, 3)) (ht : (pc : Int) + off = (tgt : Int)) (h : y < x) (kk : YG z g b nL Q k n tgt L st M) : YG z g b nL Q k n pc L (.int y :: .int x :: st) M := x_one (fun _ w => lv_icmp_gt C.1 C.2.1 d ht (fun _ => w) (fun h2 => absurd h h2)) kk
theorem y_icmpgtF (C : CxK z l g b 0 R cc nL own ret) {x y : Int32} {off : Int} {tgt : Nat} (d : decode cc pc = .ok (.if_icmp .gt off, 3)) (ht : (pc : Int) + off = (tgt : Int)) (h : ¬ y < x) (kk : YG z g b nL Q k n (pc + 3) L st M) : YG z g b nL Q k n pc L (.int y :: .int x :: st) M := x_one (fun _ w => lv_icmp_gt C.1 C.2.1 d ht (fun h2 => absurd h2 h) (fun _ => w)) kk
theorem y_tsIn (C : CxK z l g b 0 R cc nL own ret) {df lo hi : Int} {offs : Array Int} {len : Nat} {x c : Int32} {off : Int} {tgt : Nat} (d : decode cc pc = .ok (.tableswitch df lo hi offs, len)) (hx : x = c) (h1 : ¬ c.toInt < lo) (h2 : ¬ hi < c.toInt) (ho : offs[(c.toInt - lo).toNat]? = some off) (ht : (pc : Int) + off = (tgt : Int)) (kk : YG z g b nL Q k n tgt L st M) : YG z g b nL Q k n pc L (.int x :: st) M := by
  subst hx
  exact x_one (fun _ w => lv_tableIn C.1 C.2.1 d h1 h2 ho ht w) kk
theorem y_tsOut (C : CxK z l g b 0 R cc nL own ret) {df lo hi : Int} {offs : Array Int} {len : Nat} {x : Int32} {tgt : Nat} (d : decode cc pc = .ok (.tableswitch df lo hi offs, len)) (h : x.toInt < lo ∨ hi < x.toInt) (ht : (pc : Int) + df = (tgt : Int)) (kk : YG z g b nL Q k n tgt L st M) : YG z g b nL Q k n pc L (.int x :: st) M :=
  x_one (fun _ w => lv_tableOut C.1 C.2.1 d h ht w) kk
theorem y_lcmpE (C : CxK z l g b 0 R cc nL own ret) {x y : Int64} (d : decode cc pc = .ok (.lcmp, 1)) (h : x = y) (kk : YG z g b nL Q k n (pc + 1) L (.int 0 :: st) M) : YG z g b nL Q k n pc L (.long y :: .long x :: st) M := by
  subst h
  have hexec := C.1
  have hb := C.2.1
  refine x_one (fun _ w => ?_) kk
  intro T hT X
  obtain ⟨t, a, b⟩ := w T hT X
  refine ⟨t, ?_, b⟩
  jvm_step X.here [X.here.top, hexec, hb, d]
  exact a
theorem y_AA {sz : Nat} (h : sz = b + 0) : ∀ q, AA (wL b) sz q → AK b q := by
  intro q h1
  rcases h1 with ⟨r, _, rfl⟩ | h1
  · exact Nat.le_add_right _ _
  · have h2 : sz ≤ q := h1
    show b ≤ q
    omega
theorem y_sz {H : Heap} (hP : va_P g.1 vwCl (wld g (wL b) M) H) : b + 112 ≤ H.size := by
  have h : b + 111 < H.size := (hP 111 _ (wld_at (g := g) (w := wL b) (M := M) (show 111 < 112 by decide))).lt
  omega
theorem y_lald (C : CxK z l g b 0 R cc nL own ret) {r len : Nat} {i : Int32} {j : Nat} (hr : r < 112) (hk : kdL r = (3, len)) (hi : inb i len = true) (hj : i.toNatClampNeg = j) (d : decode cc pc = .ok (.laload, 1)) (kk : YG z g b nL Q k n (pc + 1) L (.long (M r j).toInt64 :: st) M) : YG z g b nL Q k n pc L (.int i :: .ref (b + r) :: st) M := by
  subst hj
  exact fun a ha H locs ls hlh hP hS => va_lald C.1 C.2.1 C.2.2.2.2.2.2.2.1.1.1 hP r 3 (wld_k (w := wL b) hr hk) rfl (inb_in hi) d (kk a ha H locs ls hlh hP hS)
/-- the script -/
theorem y_sld (C : CxK z l g b 0 R cc nL own ret) {a Ln j : Nat} {xs : Nat → Int32} (hX : va_X a Ln xs (zs z) (zs z).heap) (ha : a < (zs z).heap.size) (hj : j < Ln) (hL : Ln ≤ 3072) {i : Int32} (hi : i = Int32.ofNat j) (d : decode cc pc = .ok (.iaload, 1)) (kk : YG z g b nL Q k n (pc + 1) L (.int (xs j) :: st) M) : YG z g b nL Q k n pc L (.int i :: .ref a :: st) M := by
  subst hi
  have hC := C.2.2.2.2.2.2.2.2.2.1
  have hc : (Int32.ofNat j).toNatClampNeg = j := nI_clamp (n := j) (by omega)
  intro a9 ha9 H locs ls hlh hP hS
  have hin : vp_in (Int32.ofNat j) Ln := inb_in (nI_inb hj (by omega))
  refine va_sld C.1 C.2.1 hX ha (fun h => ?_) hS hin d ?_
  · have h2 : b ≤ a := y_AA hC a h
    omega
  · rw [hc]
    exact kk a9 ha9 H locs ls hlh hP hS
theorem y_slen (C : CxK z l g b 0 R cc nL own ret) {a Ln : Nat} {xs : Nat → Int32} (hX : va_X a Ln xs (zs z) (zs z).heap) (ha : a < (zs z).heap.size) (d : decode cc pc = .ok (.arraylength, 1)) (kk : YG z g b nL Q k n (pc + 1) L (.int (Int32.ofNat Ln) :: st) M) : YG z g b nL Q k n pc L (.ref a :: st) M := by
  have hC := C.2.2.2.2.2.2.2.2.2.1
  intro a9 ha9 H locs ls hlh hP hS
  refine va_slen C.1 C.2.1 hX ha (fun h => ?_) hS d (kk a9 ha9 H locs ls hlh hP hS)
  have h2 : b ≤ a := y_AA hC a h
  omega
theorem y_PF (C : CxK z l g b 0 R cc nL own ret) {H : Heap} {locs : List Loc} (hP : va_P g.1 vwCl (wld g (wL b) M) H) (hS : va_S (AA (wL b) (zs z).heap.size) (zs z).heap H locs) {U : State} (hU : U.heap = H) (hW : (zs z).WarmedH U.vm) : PF g (wL b) M H.size U := by
  have hC := C.2.2.2.2.2.2.2.2.2.1
  refine ⟨by rw [hU], by rw [hU]; exact hP, KK.warm hW C.2.2.2.2.2.2.2.1.1, ?_, y_sz hP⟩
  rw [hU]
  have hsz := y_sz hP
  refine ((C.2.2.2.2.2.2.2.2.1.kept (fun q h1 h2 => hS.2.1 q h1 (fun h3 => h2 (y_AA hC q h3)))).narrow (fun q h => ?_)).moved hW.alike
  rcases h with ⟨r, _, rfl⟩ | h
  · exact Nat.le_add_right _ _
  · have h2 : H.size ≤ q := h
    show b ≤ q
    omega
theorem y_keep (C : CxK z l g b 0 R cc nL own ret) {H : Heap} {locs : List Loc} (hP : va_P g.1 vwCl (wld g (wL b) M) H) (hS : va_S (AA (wL b) (zs z).heap.size) (zs z).heap H locs) {st₀ t T' : State} {Ls : List Loc} (h0 : st₀.heap = H) (hF : va_F (AA (wL b) st₀.heap.size) st₀ t) (e1 : T'.heap = t.heap) (hL : ∀ q ∈ Ls, AA (wL b) H.size q.base) : va_S (AA (wL b) (zs z).heap.size) (zs z).heap T'.heap (locs ++ Ls) := by
  obtain ⟨hz, hk⟩ := hF
  rw [h0] at hz hk
  have hsub : ∀ q, AA (wL b) H.size q → AA (wL b) (zs z).heap.size q := fun q hq => hq.elim (fun x => Or.inl x) (fun x => Or.inr (Nat.le_trans hS.1 x))
  refine ⟨Nat.le_trans hS.1 (by rw [e1]; exact hz), fun q h1 h2 => ?_, fun q hq => ?_⟩
  · rw [e1, hk q (Nat.lt_of_lt_of_le h1 hS.1) (fun y => h2 (hsub q y))]
    exact hS.2.1 q h1 h2
  · rcases List.mem_append.mp hq with h | h
    · exact hS.2.2 q h
    · exact hsub _ (hL q h)
theorem y_recv (C : CxK z l g b 0 R cc nL own ret) {r ci : Nat} {Cn : String} {T : u_T} {N : Nat} (hr : r < 112) (hk : kdL r = (0, ci)) (hc : vwCl[ci]? = some (Cn, T, N)) {H : Heap} (hP : va_P g.1 vwCl (wld g (wL b) M) H) : ∃ cellB : Cell, H[b + r]? = some cellB ∧ cellB.vm.isStatics = false ∧ (zs z).vm.findClass Cn = some cellB.cls := by
  obtain ⟨q, h1, cell, h2, h3, h4, -⟩ := hP r _ (wld_k (w := wL b) hr hk)
  cases hc.symm.trans h1
  exact ⟨cell, h2, by rw [h4]; rfl, by rw [h3]; exact (C.2.2.2.2.2.2.2.1.1.1.1 ci _ hc).2.1⟩
theorem y_callV {α : Type} {O1 : Option α} {fin1 : α → Option Value × Mem} (C : CxK z l g b 0 R cc nL own ret) {w1 : WD} {o d1 : Nat} {y : MethodName} {bytes : ByteArray} {mL nA idx r ci : Nat} {ry : Option FieldType} {As : List Value} {st0 : List Value} (v1 : α)
    (hs : Sub w1 (wL b) o) (hM : CT l g w1 (rmd d1) y bytes mL ry (.ref (b + r) :: As) (cut M o w1.2.2.1) fin1 O1) (hO : O1 = some v1) (lk : LkV own idx y bytes mL ry nA) (hr : r < 112) (hk : kdL r = (0, ci)) (hc : ∃ T N, vwCl[ci]? = some (y.cls, T, N))
    (hn : As.length = nA) (hst : st0 = As.reverse ++ .ref (b + r) :: st) (hW : (st.map fun v => v.category).sum ≤ 8) (hrm : d1 + 1 ≤ R.frames ∧ 8 + (mL + 11) + 64 * d1 ≤ R.locals) (hkn : k ≤ R.cells ∧ n ≤ R.slots) (d : decode cc pc = .ok (.invokevirtual idx, 3))
    (kk : YG z g b nL Q k n (pc + 3) L ((fin1 v1).1.toList ++ st) (pst M o w1.2.2.1 (fin1 v1).2)) : YG z g b nL Q k n pc L st0 M := by
  obtain ⟨w1', w2, w3, w4, w5, w6, w7⟩ := lk
  obtain ⟨T, N, hc⟩ := hc
  have hl := C.2.2.2.2.2.2.2.2.2.2.2
  have hR := C.2.2.2.2.2.2.2.2.2.2.1
  have hM2 := hM.lift (w := wL b) hs
  intro a9 ha H locs ls hlh hP hS
  have hr9 := va_runV (p := zp z) (l := zl z) (e := ze z) (R := zR z) (s := zs z) (m := zm z) (args := za z) (below := zb z) (meth := zt z) (c := zc z) (H := H) (locs := locs) (cells := k) (slots := n) (mc := 0) (ms := 0) (free := AA (wL b) H.size) (C := y.cls) (As := As) (rest := st) (index := idx) (nL := nL) (n := nA) (g := F0 (zm z) pc ls st0) ⟨C.1, C.2.1, C.2.2.1, C.2.2.2.1, y_htg C⟩ (by rw [hl]; exact hM2 H.size v1 hO) ⟨callB_of nA (y_htg C) (wsy_good w1') rfl rfl rfl (y_hts C w2 rfl) (y_hts C w3 rfl) ⟨w6.1, w6.2, w7⟩ (by rw [hR]; exact ⟨hrm.1, hrm.2⟩), y_hts C w4 rfl, y_hts C w5 rfl⟩ ⟨PF_blind, y_recv C hr hk hc hP, fun U hU hWm => ⟨rfl, y_PF C hP hS hU hWm⟩⟩ rfl hn hlh.1 hst (by show 2 * 0 + _ ≤ 8; omega) d (by rw [hR]; exact ⟨by omega, by omega⟩)
  intro T hT X
  obtain ⟨v, st₀, t, T', Ls, h0, X', hL, e1, e2, ⟨hv, hp, hF⟩, step⟩ := hr9 T hT X
  have hv' : v = (fin1 v1).1 := Outcome.returned.inj hv
  subst hv'
  obtain ⟨t2, a1, b1⟩ := kk a9 ha T'.heap (locs ++ Ls) ls hlh (by rw [e1]; exact hp) (y_keep C hP hS h0 hF e1 hL) T' rfl X'
  exact ⟨t2, step t2 a1, b1⟩
theorem y_callH {O1 : Option (Int32 × Mem)} (C : CxK z l g b 0 R cc nL own ret) {d1 : Nat} {y : MethodName} {bytes : ByteArray} {mL nA idx : Nat} {hh : List (Nat × Nat × Nat × Nat)} {As : List Value} {st0 : List Value} (v1 : Int32 × Mem)
    (hM : CH l g (wL b) (rmx d1) y bytes mL hh As M O1) (hO : O1 = some v1) (lk : LkH own idx y bytes mL hh nA)
    (hn : As.length = nA) (hst : st0 = As.reverse ++ st) (hW : (st.map fun v => v.category).sum ≤ 8) (hrm : d1 + 1 ≤ R.frames ∧ 8 + (mL + 11) + 64 * d1 ≤ R.locals) (hkn : k + 1 ≤ R.cells ∧ n + 6 ≤ R.slots) (d : decode cc pc = .ok (.invokestatic idx, 3))
    (kk : YG z g b nL Q (k + 1) (n + 6) (pc + 3) L (.int v1.1 :: st) v1.2) : YG z g b nL Q k n pc L st0 M := by
  obtain ⟨w1, w2, w3, w4, w6, w7⟩ := lk
  have hl := C.2.2.2.2.2.2.2.2.2.2.2
  have hR := C.2.2.2.2.2.2.2.2.2.2.1
  intro a9 ha H locs ls hlh hP hS
  have hG : GoodIn Tg (va_wsS own idx y (wsH y bytes mL hh)) := by
    intro c hc
    have h1 : ∀ x : Cond, x ∈ lw_tbl → goodWord x = true → x ∈ Tg ∧ ((x.onTables && x.keeps) = true ∨ ∃ ty, x = .arrayClass ty) := fun x hx hg => ⟨Tg_in hx hg, good_of_word hg⟩
    unfold va_wsS wsH at hc
    rcases List.mem_append.mp hc with hc | hc
    · rcases List.mem_cons.mp hc with rfl | hc
      · exact h1 _ w3 rfl
      rcases List.mem_cons.mp hc with rfl | hc
      · exact h1 _ w4 rfl
      rw [List.mem_singleton.mp hc]
      exact h1 _ w2 rfl
    · rcases List.mem_cons.mp hc with rfl | hc
      · exact h1 _ w1 rfl
      · exact Tg_good c hc
  have hr9 := vx_runSW (p := zp z) (l := zl z) (e := ze z) (R := zR z) (s := zs z) (m := zm z) (args := za z) (below := zb z) (meth := zt z) (c := zc z) (H := H) (locs := locs) (cells := k) (slots := n) (mc := 1) (ms := 6) (free := AA (wL b) H.size) (As := As) (rest := st) (index := idx) (nL := nL) (n := nA) (g := F0 (zm z) pc ls st0) ⟨C.1, C.2.1, C.2.2.1, C.2.2.2.1, y_htg C⟩ (by rw [hl]; exact hM H.size v1 hO) (vx_cwSW (Ts := Tg) nA (y_htg C) hG rfl rfl rfl ⟨w6.1, w6.2, w7⟩ (by rw [hR]; exact ⟨hrm.1, hrm.2⟩)) ⟨PF_blind, fun U hU hWm => ⟨rfl, y_PF C hP hS hU hWm⟩⟩ rfl hn hlh.1 hst (by show 2 * 0 + _ ≤ 8; omega) d (by rw [hR]; exact ⟨by omega, by omega⟩)
  intro T hT X
  obtain ⟨v, st₀, t, T', Ls, h0, X', hL, e1, e2, ⟨hv, hp, hF⟩, step⟩ := hr9 T hT X
  have hv' : v = some (.int v1.1) := Outcome.returned.inj hv
  subst hv'
  obtain ⟨t2, a1, b1⟩ := kk a9 ha T'.heap (locs ++ Ls) ls hlh (by rw [e1]; exact hp) (y_keep C hP hS h0 hF e1 hL) T' rfl X'
  exact ⟨t2, step t2 a1, b1⟩
end Rows
