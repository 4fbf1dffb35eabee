/-! words of the tables, by their lists -/
def Tg : List Cond := lw_tbl.filter goodWord
theorem Tg_in {c : Cond} (h : c ∈ lw_tbl) (hg : goodWord c = true) : c ∈ Tg := List.mem_filter.mpr ⟨h, hg⟩
theorem lay_good {C : String} {T : u_T} {k : Nat} : goodWord (u_lay C T k) = true := by
  unfold u_lay
  split <;> rfl
theorem tb_in {c : Cond} (h : c ∈ tables_1) : c ∈ lw_tbl := List.mem_append_right _ h
theorem tb1 (i : Nat) (c : Cond) (h : tables_1_1[i]? = some c) : c ∈ lw_tbl := tb_in (List.mem_append_left _ (List.mem_of_getElem? h))
theorem tb2 (i : Nat) (c : Cond) (h : tables_1_2[i]? = some c) : c ∈ lw_tbl := tb_in (List.mem_append_right _ (List.mem_append_left _ (List.mem_of_getElem? h)))
theorem tb3 (i : Nat) (c : Cond) (h : tables_1_3[i]? = some c) : c ∈ lw_tbl := tb_in (List.mem_append_right _ (List.mem_append_right _ (List.mem_append_left _ (List.mem_of_getElem? h))))
theorem tb4 (i : Nat) (c : Cond) (h : tables_1_4[i]? = some c) : c ∈ lw_tbl := tb_in (List.mem_append_right _ (List.mem_append_right _ (List.mem_append_right _ (List.mem_append_left _ (List.mem_of_getElem? h)))))
theorem tb5 (i : Nat) (c : Cond) (h : tables_1_5[i]? = some c) : c ∈ lw_tbl := tb_in (List.mem_append_right _ (List.mem_append_right _ (List.mem_append_right _ (List.mem_append_right _ (List.mem_append_left _ (List.mem_of_getElem? h))))))
theorem tb6 (i : Nat) (c : Cond) (h : tables_1_6[i]? = some c) : c ∈ lw_tbl := tb_in (List.mem_append_right _ (List.mem_append_right _ (List.mem_append_right _ (List.mem_append_right _ (List.mem_append_right _ (List.mem_append_left _ (List.mem_of_getElem? h)))))))
theorem tb7 (i : Nat) (c : Cond) (h : tables_1_7[i]? = some c) : c ∈ lw_tbl := tb_in (List.mem_append_right _ (List.mem_append_right _ (List.mem_append_right _ (List.mem_append_right _ (List.mem_append_right _ (List.mem_append_right _ (List.mem_append_left _ (List.mem_of_getElem? h))))))))
theorem tb8 (i : Nat) (c : Cond) (h : tables_1_8[i]? = some c) : c ∈ lw_tbl := tb_in (List.mem_append_right _ (List.mem_append_right _ (List.mem_append_right _ (List.mem_append_right _ (List.mem_append_right _ (List.mem_append_right _ (List.mem_append_right _ (List.mem_of_getElem? h))))))))
theorem tbs {y : MethodName} {q : Nat} (h : (y, q) ∈ lw_privs) : Cond.selects y.cls y y ∈ lw_tbl := by
  refine List.mem_append_left _ ?_
  simp only [k2_sels, List.mem_map]
  exact ⟨(y, q), h, rfl⟩
/-- a link to a field k of class ci -/
def FLk (own : String) (idx ci k : Nat) (fin : Bool) : Prop :=
  ∃ (C : String) (T : u_T) (N : Nat), vwCl[ci]? = some (C, T, N) ∧ k < N ∧ (T k).2.2.2 = fin ∧ (Cond.fieldLink own idx (T k).1 (T k).2.1 (T k).2.2.1 ∈ lw_tbl ∨ ∃ host, (own, idx, (T k).1, (T k).2.1, (T k).2.2.1, host) ∈ nstF)
/-- what is told of a class -/
def CLs (ci : Nat) : Prop := ∀ (C : String) (T : u_T) (N : Nat), vwCl[ci]? = some (C, T, N) → (∀ w ∈ u_ws C T N, w ∈ Tg) ∧ (∃ ty : Nat → FieldType, ∀ k, k < N → parseFieldDescriptor (T k).2.2.1 = some (ty k)) ∧ ∀ a, a < N → ∀ b, b < N → a ≠ b → (T a).2.1 ≠ (T b).2.1
theorem cls_of {C : String} {T : u_T} {N ci : Nat} (hc : vwCl[ci]? = some (C, T, N)) (h : ∀ k, k < N → u_lay C T k ∈ lw_tbl) (ty : Nat → FieldType) (hty : ∀ k, k < N → parseFieldDescriptor (T k).2.2.1 = some (ty k)) (hn : ∀ a, a < N → ∀ b, b < N → a ≠ b → (T a).2.1 ≠ (T b).2.1) : CLs ci := by
  intro C' T' N' hc'
  cases hc.symm.trans hc'
  refine ⟨fun w hw => ?_, ⟨ty, hty⟩, hn⟩
  obtain ⟨k, hk, rfl⟩ := List.mem_map.mp hw
  exact Tg_in (h k (List.mem_range.mp hk)) lay_good
def inb (i : Int32) (n : Nat) : Bool := decide (¬ i < 0) && decide (i.toNatClampNeg < n)
theorem inb_in {i : Int32} {n : Nat} (h : inb i n = true) : vp_in i n := by
  unfold inb at h
  rw [Bool.and_eq_true, decide_eq_true_eq, decide_eq_true_eq] at h
  rintro (q | q)
  · exact h.1 q
  · omega
def isB (v : Int32) : Bool := v == 0 || v == 1
theorem isB_nar {v : Int32} (h : isB v = true) : narrow .boolean (.int v) = .int v := by
  unfold isB at h
  rw [Bool.or_eq_true, beq_iff_eq, beq_iff_eq] at h
  rcases h with rfl | rfl <;> rfl
theorem isB_vp {v : Int32} (h : isB v = true) : vp_nar .boolean v = v := by
  unfold vp_nar
  rw [isB_nar h]
section Rows
variable {α : Type} {z : ZT} {l : Launch} {g : GG} {w : WD} {R : Room} {cc : ByteArray} {nL : Nat} {own : String} {ret : Option FieldType} {Qs : α → State → Prop} {k n pc : Nat} {L L' : List (Option Value)} {st : List Value} {M : Mem} {O A B : Option α}
theorem x_htg (C : Cx z l g w R cc nL own ret) : ∀ c ∈ Tg, c.before (za z) (zs z) = true := fun c h => x_hts C (List.mem_filter.mp h).1 (List.mem_filter.mp h).2
theorem nfld_of {C : String} {T : u_T} {N ci : Nat} (h : vwCl[ci]? = some (C, T, N)) : nfld ci = N := by unfold nfld; rw [h]
theorem x_getf (C : Cx z l g w R cc nL own ret) {idx ci f : Nat} {fin : Bool} (F : FLk own idx ci f fin) (hC : CLs ci) {r : Nat} (hr : r < w.2.2.1) (hk : w.1 r = (0, ci)) (d : decode cc pc = .ok (.getfield idx, 3))
    (kk : XG z g w nL Qs k n (pc + 3) L (en_f w.2.2.2 (w.2.1 r f) (M r f) :: st) M O) : XG z g w nL Qs k n pc L (.ref (w.2.2.2 + r) :: st) M O := by
  obtain ⟨Cn, T, N, hc, hf, -, hl⟩ := F
  intro a ha H locs ls hlh hP hS
  have hN := nfld_of hc
  have he := wld_k (g := g) (M := M) hr hk
  have hv : (flds w r ci (M r))[f]? = some (en_f w.2.2.2 (w.2.1 r f) (M r f)) := flds_at (by rw [hN]; exact hf)
  rcases hl with hl | ⟨host, hl⟩
  · exact va_get C.1 C.2.1 (x_htg C) (hC Cn T N hc).1 C.2.2.2.1 C.2.2.2.2.2.2.2.1.1 hP r he hc f hf (x_hts C hl rfl) (fun x h => h) hv d (kk a ha H locs ls hlh hP hS)
  · exact va_getN C.1 C.2.1 (x_htg C) (hC Cn T N hc).1 C.2.2.2.1 C.2.2.2.2.2.2.2.1.1 hP r he hc f hf (va_Nw.use rfl (C.2.2.2.2.2.2.2.1.2.1 _ hl)) (fun x h => h) hv d (kk a ha H locs ls hlh hP hS)
theorem x_getI (C : Cx z l g w R cc nL own ret) {idx ci f : Nat} {fin : Bool} (F : FLk own idx ci f fin) (hC : CLs ci) {r : Nat} (hr : r < w.2.2.1) (hk : w.1 r = (0, ci)) (hf : w.2.1 r f = 0) (d : decode cc pc = .ok (.getfield idx, 3))
    (kk : XG z g w nL Qs k n (pc + 3) L (.int (M r f) :: st) M O) : XG z g w nL Qs k n pc L (.ref (w.2.2.2 + r) :: st) M O := x_getf C F hC hr hk d (by rw [hf]; exact kk)
theorem x_getR (C : Cx z l g w R cc nL own ret) {idx ci f : Nat} {fin : Bool} (F : FLk own idx ci f fin) (hC : CLs ci) {r : Nat} (r' : Nat) (hr : r < w.2.2.1) (hk : w.1 r = (0, ci)) (hf : w.2.1 r f = r' + 2) (d : decode cc pc = .ok (.getfield idx, 3))
    (kk : XG z g w nL Qs k n (pc + 3) L (.ref (w.2.2.2 + r') :: st) M O) : XG z g w nL Qs k n pc L (.ref (w.2.2.2 + r) :: st) M O := x_getf C F hC hr hk d (by rw [hf]; exact kk)
theorem x_putv (C : Cx z l g w R cc nL own ret) {idx ci f : Nat} (F : FLk own idx ci f false) (hC : CLs ci) {r : Nat} {v : Int32} (hr : r < w.2.2.1) (hk : w.1 r = (0, ci)) (hf : w.2.1 r f = 0) (hv : ∀ (Cn : String) (T : u_T) (N : Nat), vwCl[ci]? = some (Cn, T, N) → ∃ ty, parseFieldDescriptor (T f).2.2.1 = some ty ∧ narrow ty (.int v) = .int v ∧ fits ty (.int v) = true) (d : decode cc pc = .ok (.putfield idx, 3))
    (kk : XG z g w nL Qs k n (pc + 3) L st (wr M r f v) O) : XG z g w nL Qs k n pc L (.int v :: .ref (w.2.2.2 + r) :: st) M O := by
  obtain ⟨Cn, T, N, hc, hfN, hfin, hl⟩ := F
  intro a ha H locs ls hlh hP hS
  have hN := nfld_of hc
  obtain ⟨h1, ⟨ty0, h2⟩, h3⟩ := hC Cn T N hc
  obtain ⟨ty, t1, t2, t3⟩ := hv Cn T N hc
  have he := wld_k (g := g) (M := M) hr hk
  have hset : (wld g w M).set r (w.2.2.2 + r, .inr (ci, (flds w r ci (M r)).set f (.int v))) = wld g w (wr M r f v) := wld_set hk (by rw [flds_set hf]; rfl)
  have hlen : f < (flds w r ci (M r)).length := by unfold flds; simp [hN]; exact hfN
  have key : ∀ (H1 : Heap) (locs1 : List Loc), va_P g.1 vwCl ((wld g w M).set r (w.2.2.2 + r, .inr (ci, (flds w r ci (M r)).set f (.int v)))) H1 → va_D (AA w (zs z).heap.size) ((wld g w M).set r (w.2.2.2 + r, .inr (ci, (flds w r ci (M r)).set f (.int v)))) → va_S (AA w (zs z).heap.size) (zs z).heap H1 locs1 → W (zp z) (zl z) (ze z) (zR z) (zs z) (zm z) (za z) (zb z) (zt z) (zc z) H1 locs1 k n (Qs a) (F0 (zm z) (pc + 3) ls st) := by
    intro H1 locs1 hP1 _ hS1
    rw [hset] at hP1
    exact kk a ha H1 locs1 ls hlh hP1 hS1
  rcases hl with hl | ⟨host, hl⟩
  · exact va_put C.1 C.2.1 (x_htg C) h1 ty0 h2 h3 C.2.2.2.1 C.2.2.2.2.2.2.2.1.1 hP wld_D hS r he hc f hfN (x_hts C hl rfl) (fun x h => h) hfin t1 t2 t3 hlen d key
  · exact va_putN C.1 C.2.1 (x_htg C) h1 ty0 h2 h3 C.2.2.2.1 C.2.2.2.2.2.2.2.1.1 hP wld_D hS r he hc f hfN (va_Nw.use rfl (C.2.2.2.2.2.2.2.1.2.1 _ hl)) (fun x h => h) hfin t1 t2 t3 hlen d key
/-- a field of type int -/
def fint (ci f : Nat) : Prop := ∀ (Cn : String) (T : u_T) (N : Nat), vwCl[ci]? = some (Cn, T, N) → parseFieldDescriptor (T f).2.2.1 = some .int
def fboo (ci f : Nat) : Prop := ∀ (Cn : String) (T : u_T) (N : Nat), vwCl[ci]? = some (Cn, T, N) → parseFieldDescriptor (T f).2.2.1 = some .boolean
theorem x_putI (C : Cx z l g w R cc nL own ret) {idx ci f : Nat} (F : FLk own idx ci f false) (hC : CLs ci) (ft : fint ci f) {r : Nat} {v : Int32} (hr : r < w.2.2.1) (hk : w.1 r = (0, ci)) (hf : w.2.1 r f = 0) (d : decode cc pc = .ok (.putfield idx, 3))
    (kk : XG z g w nL Qs k n (pc + 3) L st (wr M r f v) O) : XG z g w nL Qs k n pc L (.int v :: .ref (w.2.2.2 + r) :: st) M O :=
  x_putv C F hC hr hk hf (fun Cn T N h => ⟨.int, ft Cn T N h, rfl, rfl⟩) d kk
theorem x_putB (C : Cx z l g w R cc nL own ret) {idx ci f : Nat} (F : FLk own idx ci f false) (hC : CLs ci) (ft : fboo ci f) {r : Nat} {v : Int32} (hr : r < w.2.2.1) (hk : w.1 r = (0, ci)) (hf : w.2.1 r f = 0) (d : decode cc pc = .ok (.putfield idx, 3)) (hv : isB v = true)
    (kk : XG z g w nL Qs k n (pc + 3) L st (wr M r f v) O) : XG z g w nL Qs k n pc L (.int v :: .ref (w.2.2.2 + r) :: st) M O :=
  x_putv C F hC hr hk hf (fun Cn T N h => ⟨.boolean, ft Cn T N h, isB_nar hv, hv⟩) d kk
theorem x_putBc (C : Cx z l g w R cc nL own ret) {idx ci f : Nat} (F : FLk own idx ci f false) (hC : CLs ci) (ft : fboo ci f) {r : Nat} {v : Int32} (hr : r < w.2.2.1) (hk : w.1 r = (0, ci)) (hf : w.2.1 r f = 0) (d : decode cc pc = .ok (.putfield idx, 3))
    (kk : XG z g w nL Qs k n (pc + 3) L st (wr M r f v) O) : XG z g w nL Qs k n pc L (.int v :: .ref (w.2.2.2 + r) :: st) M (chk (isB v) O) :=
  x_chk fun h => x_putB C F hC ft hr hk hf d h kk
theorem x_ialdj (C : Cx z l g w R cc nL own ret) {r len : Nat} {i : Int32} {j : Nat} (hr : r < w.2.2.1) (hk : w.1 r = (1, len)) (hi : inb i len = true) (hj : i.toNatClampNeg = j) (d : decode cc pc = .ok (.iaload, 1))
    (kk : XG z g w nL Qs k n (pc + 1) L (.int (M r j) :: st) M O) : XG z g w nL Qs k n pc L (.int i :: .ref (w.2.2.2 + r) :: st) M O := by
  subst hj
  exact fun a ha H locs ls hlh hP hS => va_iald C.1 C.2.1 C.2.2.2.2.2.2.2.1.1 hP r 1 (wld_k hr hk) rfl (inb_in hi) d (kk a ha H locs ls hlh hP hS)
theorem x_iald (C : Cx z l g w R cc nL own ret) {r len : Nat} {i : Int32} (hr : r < w.2.2.1) (hk : w.1 r = (1, len)) (d : decode cc pc = .ok (.iaload, 1))
    (kk : XG z g w nL Qs k n (pc + 1) L (.int (M r i.toNatClampNeg) :: st) M O) : XG z g w nL Qs k n pc L (.int i :: .ref (w.2.2.2 + r) :: st) M (chk (inb i len) O) :=
  x_chk fun hi => x_ialdj C hr hk hi rfl d kk
theorem x_zald (C : Cx z l g w R cc nL own ret) {r len : Nat} {i : Int32} (hr : r < w.2.2.1) (hk : w.1 r = (2, len)) (d : decode cc pc = .ok (.baload, 1))
    (kk : XG z g w nL Qs k n (pc + 1) L (.int (M r i.toNatClampNeg) :: st) M O) : XG z g w nL Qs k n pc L (.int i :: .ref (w.2.2.2 + r) :: st) M (chk (inb i len) O) :=
  x_chk fun hi => fun a ha H locs ls hlh hP hS => va_zald C.1 C.2.1 C.2.2.2.2.2.2.2.1.1 hP r 2 (wld_k hr hk) rfl (inb_in hi) d (kk a ha H locs ls hlh hP hS)
/-- things[i] -/
theorem x_qald (C : Cx z l g w R cc nL own ret) {r len : Nat} {i : Int32} (hr : r < w.2.2.1) (hk : w.1 r = (4, len)) (d : decode cc pc = .ok (.aaload, 1))
    (kk : XG z g w nL Qs k n (pc + 1) L (va_rf (ths g (M r i.toNatClampNeg)) :: st) M O) : XG z g w nL Qs k n pc L (.int i :: .ref (w.2.2.2 + r) :: st) M (chk (inb i len) O) :=
  x_chk fun hi => fun a ha H locs ls hlh hP hS => va_aldq C.1 C.2.1 C.2.2.2.2.2.2.2.1.1 hP r 4 (wld_k hr hk) rfl (inb_in hi) d (kk a ha H locs ls hlh hP hS)
theorem x_iastj (C : Cx z l g w R cc nL own ret) {r len : Nat} {i v : Int32} {j : Nat} (hr : r < w.2.2.1) (hk : w.1 r = (1, len)) (hi : inb i len = true) (hj : i.toNatClampNeg = j) (d : decode cc pc = .ok (.iastore, 1))
    (kk : XG z g w nL Qs k n (pc + 1) L st (wr M r j v) O) : XG z g w nL Qs k n pc L (.int v :: .int i :: .ref (w.2.2.2 + r) :: st) M O := by
  subst hj
  refine fun a ha H locs ls hlh hP hS => va_iast C.1 C.2.1 C.2.2.2.2.2.2.2.1.1 hP wld_D hS r 1 (wld_k hr hk) rfl (inb_in hi) d (fun H1 locs1 hP1 _ hS1 => kk a ha H1 locs1 ls hlh ?_ hS1)
  rw [show (wld g w M).set r (w.2.2.2 + r, .inl (g.2.1 1, len, .inl (upd (M r) i.toNatClampNeg v))) = wld g w (wr M r i.toNatClampNeg v) from wld_set hk rfl] at hP1
  exact hP1
theorem x_iast (C : Cx z l g w R cc nL own ret) {r len : Nat} {i v : Int32} (hr : r < w.2.2.1) (hk : w.1 r = (1, len)) (d : decode cc pc = .ok (.iastore, 1))
    (kk : XG z g w nL Qs k n (pc + 1) L st (wr M r i.toNatClampNeg v) O) : XG z g w nL Qs k n pc L (.int v :: .int i :: .ref (w.2.2.2 + r) :: st) M (chk (inb i len) O) :=
  x_chk fun hi => x_iastj C hr hk hi rfl d kk
theorem x_zast (C : Cx z l g w R cc nL own ret) {r len : Nat} {i v : Int32} (hr : r < w.2.2.1) (hk : w.1 r = (2, len)) (hv : isB v = true) (d : decode cc pc = .ok (.bastore, 1))
    (kk : XG z g w nL Qs k n (pc + 1) L st (wr M r i.toNatClampNeg v) O) : XG z g w nL Qs k n pc L (.int v :: .int i :: .ref (w.2.2.2 + r) :: st) M (chk (inb i len) O) := by
  refine x_chk fun hi => fun a ha H locs ls hlh hP hS => va_zast C.1 C.2.1 C.2.2.2.2.2.2.2.1.1 hP wld_D hS r 2 (wld_k hr hk) rfl (inb_in hi) d (fun H1 locs1 hP1 _ hS1 => kk a ha H1 locs1 ls hlh ?_ hS1)
  rw [isB_vp hv, show (wld g w M).set r (w.2.2.2 + r, .inl (g.2.1 2, len, .inl (upd (M r) i.toNatClampNeg v))) = wld g w (wr M r i.toNatClampNeg v) from wld_set hk rfl] at hP1
  exact hP1
theorem x_zastc (C : Cx z l g w R cc nL own ret) {r len : Nat} {i v : Int32} (hr : r < w.2.2.1) (hk : w.1 r = (2, len)) (d : decode cc pc = .ok (.bastore, 1))
    (kk : XG z g w nL Qs k n (pc + 1) L st (wr M r i.toNatClampNeg v) O) : XG z g w nL Qs k n pc L (.int v :: .int i :: .ref (w.2.2.2 + r) :: st) M (chk (isB v) (chk (inb i len) O)) :=
  x_chk fun hv => x_zast C hr hk hv d kk
theorem x_alen (C : Cx z l g w R cc nL own ret) {r len : Nat} (hr : r < w.2.2.1) (hk : w.1 r = (1, len)) {v : Int32} (hv : Int32.ofNat len = v) (d : decode cc pc = .ok (.arraylength, 1))
    (kk : XG z g w nL Qs k n (pc + 1) L (.int v :: st) M O) : XG z g w nL Qs k n pc L (.ref (w.2.2.2 + r) :: st) M O :=
  fun a ha H locs ls hlh hP hS => va_alen C.1 C.2.1 C.2.2.2.2.2.2.2.1.1 hP r 1 (wld_k hr hk) rfl hv d (kk a ha H locs ls hlh hP hS)
/-- pulls[i]: a row of an array of rows; the rows lie behind it -/
theorem x_rald (C : Cx z l g w R cc nL own ret) {r len : Nat} {i : Int32} (hr : r < w.2.2.1) (hk : w.1 r = (5, len)) (d : decode cc pc = .ok (.aaload, 1))
    (kk : inb i len = true → XG z g w nL Qs k n (pc + 1) L (.ref (w.2.2.2 + (r + 1 + i.toNatClampNeg)) :: st) M O) : XG z g w nL Qs k n pc L (.int i :: .ref (w.2.2.2 + r) :: st) M (chk (inb i len) O) := by
  refine x_chk fun hi => fun a ha H locs ls hlh hP hS => ?_
  have hin := inb_in hi
  have hlt : i.toNatClampNeg < len := Nat.not_le.mp fun q => hin (Or.inr q)
  exact W.aald (v := .ref (w.2.2.2 + (r + 1 + i.toNatClampNeg))) (ty := .array .int) C.1 C.2.1 (hP r _ (wld_k hr hk)) ((C.2.2.2.2.2.2.2.1.1.2 5 _ rfl).1 len (fun j => va_rf (some (w.2.2.2 + (r + 1 + j))))) rfl (fun q => by cases q) (by show ¬ (i < 0 ∨ (arrV _ _ _).slots.size ≤ _); rw [arrV_size]; exact hin) (by show (arrV _ _ _).slots[_]? = _; rw [arrV_read _ _ hlt]; rfl) rfl rfl d (kk hi a ha H locs ls hlh hP hS)
theorem wld_q {r len i : Nat} {v : Int32} (hk : w.1 r = (4, len)) : (wld g w M).set r (w.2.2.2 + r, .inl (g.2.1 4, len, .inr (.inr (.inr (.inr (fun j => if j = i then ths g v else ths g (M r j))))))) = wld g w (wr M r i v) := by
  refine wld_set hk ?_
  show _ = (Sum.inl (g.2.1 4, len, .inr (.inr (.inr (.inr _)))) : va_E)
  refine congrArg (fun f => (Sum.inl (g.2.1 4, len, .inr (.inr (.inr (.inr f)))) : va_E)) (funext fun j => ?_)
  by_cases h : j = i <;> simp [h]
theorem thNm_len : thNm.length = 29 := rfl
theorem ths_lt {x : Int32} {q : Nat} (h : ths g x = some q) : ∃ k, k < 29 ∧ q = g.2.2.1 k ∧ x.toNatClampNeg % 30 = k + 1 := by
  unfold ths at h
  split at h
  · cases h
  · next k hk => exact ⟨k, by omega, (Option.some.inj h).symm, hk⟩
/-- things[i] = x -/
theorem x_qast (C : Cx z l g w R cc nL own ret) {r len : Nat} {i x : Int32} (hr : r < w.2.2.1) (hk : w.1 r = (4, len)) (d : decode cc pc = .ok (.aastore, 1))
    (kk : XG z g w nL Qs k n (pc + 1) L st (wr M r i.toNatClampNeg x) O) : XG z g w nL Qs k n pc L (va_rf (ths g x) :: .int i :: .ref (w.2.2.2 + r) :: st) M (chk (inb i len) O) := by
  refine x_chk fun hi => fun a ha H locs ls hlh hP hS => ?_
  have key : ∀ (H1 : Heap) (locs1 : List Loc), va_P g.1 vwCl ((wld g w M).set r (w.2.2.2 + r, .inl (g.2.1 4, len, .inr (.inr (.inr (.inr (fun j => if j = i.toNatClampNeg then ths g x else ths g (M r j)))))))) H1 → va_S (AA w (zs z).heap.size) (zs z).heap H1 locs1 → W (zp z) (zl z) (ze z) (zR z) (zs z) (zm z) (za z) (zb z) (zt z) (zc z) H1 locs1 k n (Qs a) (F0 (zm z) (pc + 1) ls st) := by
    intro H1 locs1 hP1 hS1
    rw [wld_q hk] at hP1
    exact kk a ha H1 locs1 ls hlh hP1 hS1
  cases hx : ths g x with
  | none => 
    rw [hx] at key
    exact va_astqN C.1 C.2.1 C.2.2.2.2.2.2.2.1.1 hP wld_D hS r 4 (wld_k hr hk) rfl (inb_in hi) d (fun H1 locs1 hP1 _ hS1 => key H1 locs1 hP1 hS1)
  | some q =>
    rw [hx] at key
    obtain ⟨j, hj, rfl, -⟩ := ths_lt hx
    obtain ⟨cell, o1, o2, o3, -⟩ := ((C.2.2.2.2.2.2.2.2.1.1.1 j hj).2.1).kept hS.2.1
    exact vb_astq C.1 C.2.1 C.2.2.2.2.2.2.2.1.1 hP wld_D hS r 4 (wld_k hr hk) rfl ⟨cell, o1, o2, o3⟩ (fun comp c0 h1 h2 => vb_asgS comp c0 h1 h2) (inb_in hi) d (fun H1 locs1 hP1 _ hS1 => key H1 locs1 hP1 hS1)
end Rows
