/-! constructors: worlds that grow -/
def va_AOi (U : State) : Prop := (Cond.arrayOver (.array .int)).before #[] U = true
theorem va_AOi.moved {u U : State} (hvm : u.vm.Alike U.vm) (h : va_AOi u) : va_AOi U := by
  unfold va_AOi Cond.before Cond.holds at h ⊢
  simp only [Cond.value, beq_iff_eq] at h ⊢
  cases hc : u.vm.findClass (FieldType.array .int).toString with
  | none => simp [hc] at h
  | some comp =>
    simp only [hc, Option.bind_some, Option.bind_eq_some_iff, Option.map_eq_some_iff] at h
    obtain ⟨c, hi, k, hk, hb⟩ := h
    obtain ⟨k', hk', he⟩ := hvm.2.2 _ _ hk
    have hi' : (U.vm.classes.findIdx? fun (x : Class) => match x.kind with | .array component _ => component == comp | _ => false) = some c := by
      have e0 : U.vm.bare = u.vm.bare := by first | exact hvm.bare_eq | exact hvm.bare_eq.symm
      have e1 := va_idx_bare U.vm comp
      rw [e0, va_idx_bare u.vm comp] at e1
      exact e1.symm.trans hi
    have f1 : U.vm.findClass (FieldType.array .int).toString = some comp := by rw [hvm.findClass]; exact hc
    rw [f1, Option.bind_some]
    refine (congrArg (fun o : Option Nat => (o.bind (fun c => (U.vm.classes[c]?).map fun (k : Class) => match k.kind with | .array _ ty => decide (ty = FieldType.array .int) && decide (U.vm.findClass ("[" ++ (FieldType.array FieldType.int).toString) = some c) | _ => false))) hi').trans ?_
    rw [Option.bind_some, hk', Option.map_some, hvm.findClass]
    refine congrArg some ?_
    rw [← hb]
    have : k'.kind = k.kind := by rw [he]
    rw [this]
    rfl
def AK (b : Nat) : Nat → Prop := fun q => b ≤ q
def KO (g : GG) (U : State) : Prop := KK g U ∧ va_AO "RopeFerry$Thing" U ∧ va_AOi U
theorem KO.warm {g : GG} {s U : State} (hW : s.WarmedH U.vm) (h : KO g s) : KO g U := ⟨h.1.warm hW, h.2.1.moved hW.alike, h.2.2.moved hW.alike⟩
theorem KO.same {g : GG} {u U : State} (h0 : U.vm = u.vm) (h : KO g u) : KO g U := ⟨h.1.same h0, h.2.1.moved (by rw [h0]; exact Vm.Alike.refl _), h.2.2.moved (by rw [h0]; exact Vm.Alike.refl _)⟩
/-- a field's code set; a region's fields anew -/
def fup (fc : Nat → Nat → Nat) (r k c : Nat) : Nat → Nat → Nat := fun r' k' => if r' = r ∧ k' = k then c else fc r' k'
def fzap (fc fn : Nat → Nat → Nat) (n : Nat) : Nat → Nat → Nat := fun r k => if r = n then (if fn n k = 0 then 0 else 1) else fc r k
def zap (M : Mem) (n : Nat) : Mem := fun r i => if r = n then 0 else M r i
abbrev KW : Type := (Nat → Nat × Nat) × Nat
/-- the world of kinds kd and base b, with n regions, fields by fc -/
abbrev kw (q : KW) (fc : Nat → Nat → Nat) (n : Nat) : WD := (q.1, fc, n, q.2)
def CxK (z : ZT) (l : Launch) (g : GG) (b n0 : Nat) (R : Room) (cc : ByteArray) (nL : Nat) (own : String) (ret : Option FieldType) : Prop :=
  (zp z).tables.exec = Jvm.exec ∧ (zc z).code = cc ∧ (zc z).maxLocals = nL ∧ (zs z).vm.findClass own = some (zm z).cls ∧ (zt z).sig.returnType = ret ∧ (zt z).locks = false ∧ (∀ w ∈ lw_tbl, goodWord w = true → w.before (za z) (zs z) = true) ∧ KO g (zs z) ∧ Im g (AK b) (zs z) (zs z).heap ∧ (zs z).heap.size = b + n0 ∧ zR z = R ∧ zl z = l
def XK (z : ZT) (g : GG) (q : KW) (nL : Nat) (Q : State → Prop) (k m pc : Nat) (L : List (Option Value)) (st : List Value) (fc : Nat → Nat → Nat) (n : Nat) (M : Mem) : Prop :=
  ∀ (H : Heap) (locs : List Loc) (ls : Array Slot), lh ls nL L → va_P g.1 vwCl (wld g (kw q fc n) M) H → H.size = q.2 + n → va_S (AK q.2) (zs z).heap H locs →
    W (zp z) (zl z) (ze z) (zR z) (zs z) (zm z) (za z) (zb z) (zt z) (zc z) H locs k m Q (F0 (zm z) pc ls st)
theorem kw_D {g : GG} {q : KW} {fc : Nat → Nat → Nat} {n : Nat} {M : Mem} : va_D (AK q.2) (wld g (kw q fc n) M) := by
  refine ⟨fun i j x y hi hj h => ?_, fun k x h => ?_⟩
  · obtain ⟨_, rfl⟩ := wld_in hi
    obtain ⟨_, rfl⟩ := wld_in hj
    have h9 : q.2 + i = q.2 + j := h
    omega
  · obtain ⟨h1, rfl⟩ := wld_in h
    exact Nat.le_add_right _ _
theorem kw_push {g : GG} {q : KW} {fc fc' : Nat → Nat → Nat} {n t s : Nat} {M M' : Mem} {e : va_E} (hk : q.1 n = (t, s)) (he : e = entk g (kw q fc' (n + 1)) n t s (M' n)) (hf : ∀ r, r < n → (∀ k, fc' r k = fc r k) ∧ ∀ i, M' r i = M r i) : wld g (kw q fc n) M ++ [(q.2 + n, e)] = wld g (kw q fc' (n + 1)) M' := by
  apply List.ext_getElem?
  intro j
  have hlen : (wld g (kw q fc n) M).length = n := by simp [wld]
  by_cases hj : j < n
  · rw [List.getElem?_append_left (by rw [hlen]; exact hj), wld_at hj, wld_at (show j < n + 1 by omega)]
    refine congrArg some (congrArg (Prod.mk _) ?_)
    unfold ent
    have h1 : M j = M' j := funext fun i => ((hf j hj).2 i).symm
    have h2 : ∀ c, flds (kw q fc n) j c = flds (kw q fc' (n + 1)) j c := fun c => funext fun z => by
      unfold flds
      refine List.map_congr_left fun k _ => ?_
      rw [show (kw q fc n).2.1 j k = (kw q fc' (n + 1)).2.1 j k from ((hf j hj).1 k).symm]
    show entk g (kw q fc n) j (q.1 j).1 (q.1 j).2 (M j) = entk g (kw q fc' (n + 1)) j (q.1 j).1 (q.1 j).2 (M' j)
    rw [h1]
    unfold entk
    split
    · rw [h2]
    all_goals rfl
  · by_cases hj2 : j = n
    · subst hj2
      rw [List.getElem?_append_right (by omega), hlen, Nat.sub_self, wld_at (show j < j + 1 by omega)]
      unfold ent
      rw [show (kw q fc' (j + 1)).1 j = (t, s) from hk, he]
      rfl
    · rw [List.getElem?_eq_none (by simp [hlen]; omega), List.getElem?_eq_none (by simp [wld]; omega)]
section Rows
variable {z : ZT} {l : Launch} {g : GG} {q : KW} {R : Room} {cc : ByteArray} {nL : Nat} {own : String} {ret : Option FieldType} {Q : State → Prop} {k m pc n n0 : Nat} {L L' : List (Option Value)} {st : List Value} {M : Mem} {fc : Nat → Nat → Nat}
theorem k_hts (C : CxK z l g q.2 n0 R cc nL own ret) {c9 : Cond} (h : c9 ∈ lw_tbl) (hg : goodWord c9 = true) : c9.before (za z) (zs z) = true := C.2.2.2.2.2.2.1 _ h hg
theorem k_htg (C : CxK z l g q.2 n0 R cc nL own ret) : ∀ c ∈ Tg, c.before (za z) (zs z) = true := fun c h => k_hts C (List.mem_filter.mp h).1 (List.mem_filter.mp h).2
theorem k_one {pc' : Nat} {st' : List Value} (h : ∀ {H : Heap} {locs : List Loc} {ls : Array Slot}, lh ls nL L →
      W (zp z) (zl z) (ze z) (zR z) (zs z) (zm z) (za z) (zb z) (zt z) (zc z) H locs k m Q (F0 (zm z) pc' ls st') → W (zp z) (zl z) (ze z) (zR z) (zs z) (zm z) (za z) (zb z) (zt z) (zc z) H locs k m Q (F0 (zm z) pc ls st))
    (kk : XK z g q nL Q k m pc' L st' fc n M) : XK z g q nL Q k m pc L st fc n M := fun H locs ls hl hP hz hS => h hl (kk H locs ls hl hP hz hS)
theorem k_iconst (C : CxK z l g q.2 n0 R cc nL own ret) {i : Int} {v : Int32} (d : decode cc pc = .ok (.iconst i, 1)) (hv : Int32.ofInt i = v) (kk : XK z g q nL Q k m (pc + 1) L (.int v :: st) fc n M) : XK z g q nL Q k m pc L st fc n M := k_one (fun _ w => lv_iconst C.1 C.2.1 d hv w) kk
theorem k_bipush (C : CxK z l g q.2 n0 R cc nL own ret) {i : Int} {v : Int32} (d : decode cc pc = .ok (.bipush i, 2)) (hv : (Int8.ofInt i).toInt32 = v) (kk : XK z g q nL Q k m (pc + 2) L (.int v :: st) fc n M) : XK z g q nL Q k m pc L st fc n M := k_one (fun _ w => lv_bipush C.1 C.2.1 d hv w) kk
theorem k_sipush (C : CxK z l g q.2 n0 R cc nL own ret) {i : Int} {v : Int32} (d : decode cc pc = .ok (.sipush i, 3)) (hv : (Int16.ofInt i).toInt32 = v) (kk : XK z g q nL Q k m (pc + 3) L (.int v :: st) fc n M) : XK z g q nL Q k m pc L st fc n M := k_one (fun _ w => lv_sipush C.1 C.2.1 d hv w) kk
theorem k_aloadn (C : CxK z l g q.2 n0 R cc nL own ret) {i : Fin 4} {a : Nat} (d : decode cc pc = .ok (.aload_n i, 1)) (hl : L[i.val]? = some (some (.ref a))) (kk : XK z g q nL Q k m (pc + 1) L (.ref a :: st) fc n M) : XK z g q nL Q k m pc L st fc n M := k_one (fun h w => lv_aload_n C.1 C.2.1 d rfl (h.at hl) w) kk
theorem k_dup (C : CxK z l g q.2 n0 R cc nL own ret) {v : Value} (d : decode cc pc = .ok (.dup, 1)) (hv : v.category = 1) (kk : XK z g q nL Q k m (pc + 1) L (v :: v :: st) fc n M) : XK z g q nL Q k m pc L (v :: st) fc n M := k_one (fun _ w => lv_dup C.1 C.2.1 d hv w) kk
theorem k_wk (hw : lwk L L') (kk : XK z g q nL Q k m pc L' st fc n M) : XK z g q nL Q k m pc L st fc n M := fun H locs ls hl hP hz hS => kk H locs ls (hl.wk hw) hP hz hS
theorem k_widen {k' m' : Nat} (h1 : k ≤ k') (h2 : m ≤ m') (kk : XK z g q nL Q k' m' pc L st fc n M) : XK z g q nL Q k m pc L st fc n M := fun H locs ls hl hP hz hS => W.widen h1 h2 (kk H locs ls hl hP hz hS)
theorem k_obj (C : CxK z l g q.2 n0 R cc nL own ret) {idx a : Nat} (hw : Cond.methodLink own idx Lib.objectInit ∈ lw_tbl ∧ Cond.instanceMethod Lib.objectInit ∈ lw_tbl ∧ Cond.code Lib.objectInit ⟨#[0xb1]⟩ 1 none ∈ lw_tbl) (hR : 1 ≤ R.frames ∧ 20 ≤ R.locals) (hW : (st.map fun v => v.category).sum ≤ 8) (d : decode cc pc = .ok (.invokespecial idx, 3)) (kk : XK z g q nL Q k m (pc + 3) L st fc n M) : XK z g q nL Q k m pc L (.ref a :: st) fc n M :=
  k_one (fun h w => W.objInit C.1 C.2.1 C.2.2.2.1 (k_hts C hw.1 rfl) (k_hts C hw.2.1 rfl) (k_hts C hw.2.2 rfl) rfl (by rw [C.2.2.1]; exact h.1) rfl d (by rw [C.2.2.2.2.2.2.2.2.2.2.1]; exact hR.1) (by rw [C.2.2.2.2.2.2.2.2.2.2.1]; show 2 * 0 + _ + 12 ≤ _; omega) w) kk
theorem k_getR (C : CxK z l g q.2 n0 R cc nL own ret) {idx ci f : Nat} {fin : Bool} (F : FLk own idx ci f fin) (hC : CLs ci) {r : Nat} (r' : Nat) (hr : r < n) (hk : q.1 r = (0, ci)) (hf : fc r f = r' + 2) (d : decode cc pc = .ok (.getfield idx, 3))
    (kk : XK z g q nL Q k m (pc + 3) L (.ref (q.2 + r') :: st) fc n M) : XK z g q nL Q k m pc L (.ref (q.2 + r) :: st) fc n M := by
  obtain ⟨Cn, T, N, hc, hfN, -, hl⟩ := F
  intro H locs ls hlh hP hz hS
  have hN := nfld_of hc
  have he := wld_k (g := g) (w := kw q fc n) (M := M) hr hk
  have hv : (flds (kw q fc n) r ci (M r))[f]? = some (.ref (q.2 + r')) := by
    rw [flds_at (by rw [hN]; exact hfN)]
    show some (en_f q.2 (fc r f) _) = _
    rw [hf]
    rfl
  rcases hl with hl | ⟨host, hl⟩
  · exact va_get C.1 C.2.1 (k_htg C) (hC Cn T N hc).1 C.2.2.2.1 C.2.2.2.2.2.2.2.1.1.1 hP r he hc f hfN (k_hts C hl rfl) (fun x h => h) hv d (kk H locs ls hlh hP hz hS)
  · exact va_getN C.1 C.2.1 (k_htg C) (hC Cn T N hc).1 C.2.2.2.1 C.2.2.2.2.2.2.2.1.1.1 hP r he hc f hfN (va_Nw.use rfl (C.2.2.2.2.2.2.2.1.1.2.1 _ hl)) (fun x h => h) hv d (kk H locs ls hlh hP hz hS)
theorem k_put (C : CxK z l g q.2 n0 R cc nL own ret) (hin2 : (zt z).name = "<init>") {idx ci f : Nat} {fin : Bool} {Cn : String} {T : u_T} {N : Nat} (hc : vwCl[ci]? = some (Cn, T, N)) (hfN : f < N) (hfin : (T f).2.2.2 = fin) (hl : Cond.fieldLink own idx (T f).1 (T f).2.1 (T f).2.2.1 ∈ lw_tbl) (hdecl : (T f).1 = own) (hC : CLs ci) {r : Nat} {v : Value} {fc' : Nat → Nat → Nat} {M' : Mem} (hr : r < n) (hk : q.1 r = (0, ci))
    {ty : FieldType} (t1 : parseFieldDescriptor (T f).2.2.1 = some ty) (t2 : narrow ty v = v) (t3 : fits ty v = true) (hset : (wld g (kw q fc n) M).set r (q.2 + r, .inr (ci, (flds (kw q fc n) r ci (M r)).set f v)) = wld g (kw q fc' n) M') (d : decode cc pc = .ok (.putfield idx, 3))
    (kk : XK z g q nL Q k m (pc + 3) L st fc' n M') : XK z g q nL Q k m pc L (v :: .ref (q.2 + r) :: st) fc n M := by
  intro H locs ls hlh hP hz hS0
  have hN := nfld_of hc
  obtain ⟨hin, ⟨ty0, hty⟩, hnm⟩ := hC Cn T N hc
  have he := wld_k (g := g) (w := kw q fc n) (M := M) hr hk
  have hlen : f < (flds (kw q fc n) r ci (M r)).length := by unfold flds; simp [hN]; exact hfN
  have hD : va_D (AK q.2) (wld g (kw q fc n) M) := kw_D
  have hK := C.2.2.2.2.2.2.2.1.1.1
  have hts := k_htg C
  have hown := C.2.2.2.1
  have hlink := k_hts C hl rfl
  have hap := va_apart (own := own) hts hin ty0 hty hnm hK hc
  obtain ⟨rr, h1, cell, q1, q2, q3, q4⟩ := hP r _ he
  have hrr : rr = (Cn, T, N) := Option.some.inj (h1.symm.trans hc)
  subst hrr
  obtain ⟨hSs, hfc, kC, hkC, hkind⟩ := hK.1 ci _ hc
  obtain ⟨cf, kf, fi, fd, hi, hsl⟩ := hSs f hfN
  have hlay := hts _ (hin _ (u_in_lay hfN))
  have hst := (u_facts hfc hkC (u_lays hts hin hfN) hi).1
  have fin0 : ∀ H' : Heap, H'[q.2 + r]? = some (cell.setSlot fd.slot v) → H'.size = H.size → (∀ x : Nat, x ≠ q.2 + r → H'[x]? = H[x]?) → W (zp z) (zl z) (ze z) (zR z) (zs z) (zm z) (za z) (zb z) (zt z) (zc z) H' (locs ++ [⟨q.2 + r, fd.slot⟩]) k m Q (F0 (zm z) (pc + 3) ls st) := by
    intro H' e1 e2 e3
    rw [hsl] at e1
    have hP1 := hP.set hD he (e := .inr (ci, (flds (kw q fc n) r ci (M r)).set f v)) (show va_at g.1 vwCl (q.2 + r, .inr (ci, (flds (kw q fc n) r ci (M r)).set f v)) H' from ⟨_, hc, t_OB.to (V := updV (vp_V (flds (kw q fc n) r ci (M r))) f v) ⟨_, e1, q2, q3, t_set q4 hap hfN v⟩ (fun j _ => vp_updV_set hlen v j)⟩) e3
    rw [show (kw q fc n).2.2.2 + r = q.2 + r from rfl, hset] at hP1
    exact kk H' _ ls hlh hP1 (e2.trans hz) (hS0.put e2 e3 (Nat.le_add_right _ _))
  cases fin with
  | false =>
    unfold u_lay at hlay
    rw [if_neg (by rw [hfin]; decide)] at hlay
    have h6 := u_store hfc hkC hkind hlay hi t1 t2 t3
    exact W.putK C.1 C.2.1 (f := fd) ⟨hown, hlink, ⟨_, _, _, hi⟩, hst⟩ (by rw [q2]; exact h6) q1 q3 (by rw [hsl]; exact k2_hasslot (q4 f hfN)) rfl rfl d fin0
  | true =>
    unfold u_lay at hlay
    rw [if_pos hfin] at hlay
    have hcf : (zm z).cls = cf := by
      obtain ⟨_, _, c', _, _, _, -, -, hf', -, -, -, hown2, -⟩ := Cond.laysFinal_spec hlay
      have e1 : c' = cf := by have := hi.symm.trans hf'; simp at this; exact this.1.symm
      rw [hdecl] at hown2
      rw [← e1]; exact Option.some.inj (hown.symm.trans hown2)
    have h6 := u_fits hfc hkC hkind (Or.inr hlay) hi t1 t2 t3
    exact W.putFinK C.1 C.2.1 hown hlink hi hst hcf hin2 (by rw [q2]; exact h6) q1 q3 (by rw [hsl]; exact k2_hasslot (q4 f hfN)) rfl rfl d fin0
theorem k_putI (C : CxK z l g q.2 n0 R cc nL own ret) (hin2 : (zt z).name = "<init>") {idx ci f : Nat} {ty : FieldType} {Cn : String} {T : u_T} {N : Nat} (hc : vwCl[ci]? = some (Cn, T, N)) (hfN : f < N) (hfin : (T f).2.2.2 = false) (hl : Cond.fieldLink own idx (T f).1 (T f).2.1 (T f).2.2.1 ∈ lw_tbl) (hdecl : (T f).1 = own) (hC : CLs ci) {r : Nat} {v : Int32} (hr : r < n) (hk : q.1 r = (0, ci)) (hf : fc r f = 0)
    (t1 : parseFieldDescriptor (T f).2.2.1 = some ty) (t2 : narrow ty (.int v) = .int v) (t3 : fits ty (.int v) = true) (d : decode cc pc = .ok (.putfield idx, 3))
    (kk : XK z g q nL Q k m (pc + 3) L st fc n (wr M r f v)) : XK z g q nL Q k m pc L (.int v :: .ref (q.2 + r) :: st) fc n M :=
  k_put C hin2 hc hfN hfin hl hdecl hC hr hk t1 t2 t3 (by rw [flds_set (w := kw q fc n) hf]; exact wld_set (w := kw q fc n) hk rfl) d kk
theorem flds_setR {r ci f r' : Nat} {zf : Nat → Int32} : (flds (kw q fc n) r ci zf).set f (.ref (q.2 + r')) = flds (kw q (fup fc r f (r' + 2)) n) r ci zf := by
  apply List.ext_getElem?
  intro j
  unfold flds
  by_cases hj : j = f
  · subst hj
    by_cases hl : j < nfld ci
    · rw [List.getElem?_set_self (by simpa using hl), List.getElem?_map, List.getElem?_range hl]
      simp [fup, en_f]
    · rw [List.getElem?_eq_none (by simp; omega), List.getElem?_eq_none (by simp; omega)]
  · rw [List.getElem?_set_ne (Ne.symm hj)]
    by_cases hl : j < nfld ci
    · rw [List.getElem?_map, List.getElem?_range hl, List.getElem?_map, List.getElem?_range hl]
      simp [fup, hj]
    · rw [List.getElem?_eq_none (by simp; omega), List.getElem?_eq_none (by simp; omega)]
theorem k_putR (C : CxK z l g q.2 n0 R cc nL own ret) (hin2 : (zt z).name = "<init>") {idx ci f : Nat} {ty : FieldType} {Cn : String} {T : u_T} {N : Nat} (hc : vwCl[ci]? = some (Cn, T, N)) (hfN : f < N) {fin : Bool} (hfin : (T f).2.2.2 = fin) (hl : Cond.fieldLink own idx (T f).1 (T f).2.1 (T f).2.2.1 ∈ lw_tbl) (hdecl : (T f).1 = own) (hC : CLs ci) {r r' : Nat} (hr : r < n) (hk : q.1 r = (0, ci))
    (t1 : parseFieldDescriptor (T f).2.2.1 = some ty) (t2 : narrow ty (.ref (q.2 + r')) = .ref (q.2 + r')) (t3 : fits ty (.ref (q.2 + r')) = true) (d : decode cc pc = .ok (.putfield idx, 3))
    (kk : XK z g q nL Q k m (pc + 3) L st (fup fc r f (r' + 2)) n M) : XK z g q nL Q k m pc L (.ref (q.2 + r') :: .ref (q.2 + r) :: st) fc n M := by
  refine k_put C hin2 hc hfN hfin hl hdecl hC hr hk t1 t2 t3 ?_ d kk
  rw [flds_setR]
  apply List.ext_getElem?
  intro j
  by_cases hj : j = r
  · subst hj
    rw [List.getElem?_set_self (by simpa [wld] using hr), wld_k (w := kw q (fup fc j f (r' + 2)) n) hr hk]
    rfl
  · rw [List.getElem?_set_ne (Ne.symm hj)]
    by_cases hl2 : j < n
    · rw [wld_at (w := kw q fc n) hl2, wld_at (w := kw q (fup fc r f (r' + 2)) n) hl2]
      refine congrArg some (congrArg (Prod.mk _) ?_)
      unfold ent
      have h2 : ∀ c, flds (kw q fc n) j c = flds (kw q (fup fc r f (r' + 2)) n) j c := fun c => funext fun zf => by
        unfold flds
        refine List.map_congr_left fun i _ => ?_
        show en_f q.2 (fc j i) _ = en_f q.2 (fup fc r f (r' + 2) j i) _
        simp [fup, hj]
      show entk g (kw q fc n) j (q.1 j).1 (q.1 j).2 (M j) = entk g (kw q (fup fc r f (r' + 2)) n) j (q.1 j).1 (q.1 j).2 (M j)
      unfold entk
      split
      · rw [h2]
      all_goals rfl
    · rw [List.getElem?_eq_none (by simp [wld]; omega), List.getElem?_eq_none (by simp [wld]; omega)]
theorem AK_put {H H1 : Heap} {locs : List Loc} (hS : va_S (AK q.2) (zs z).heap H locs) (z1 : H.size ≤ H1.size) (o1 : ∀ x, x < H.size → H1[x]? = H[x]?) : va_S (AK q.2) (zs z).heap H1 locs :=
  ⟨Nat.le_trans hS.1 z1, fun x h1 h2 => (o1 x (Nat.lt_of_lt_of_le h1 hS.1)).trans (hS.2.1 x h1 h2), hS.2.2⟩
theorem push_P {H H1 : Heap} {e : va_E} (hP : va_P g.1 vwCl (wld g (kw q fc n) M) H) (hz : H.size = q.2 + n) (o1 : ∀ x, x < H.size → H1[x]? = H[x]?) (he : va_at g.1 vwCl (q.2 + n, e) H1) {fc' : Nat → Nat → Nat} {M' : Mem} (hw : wld g (kw q fc n) M ++ [(q.2 + n, e)] = wld g (kw q fc' (n + 1)) M') : va_P g.1 vwCl (wld g (kw q fc' (n + 1)) M') H1 := by
  rw [← hw]
  refine (hP.kept (fun k x hx => o1 x.1 ((hP k x hx).lt))).app (fun k x hx => ?_)
  have h0 : k < 1 := (List.getElem?_eq_some_iff.mp hx).1
  rw [show k = 0 by omega] at hx
  cases hx
  exact he
theorem zap_self : zap M n n = fun _ => 0 := funext fun i => by simp [zap]
theorem zap_hf {fn : Nat → Nat → Nat} : ∀ r, r < n → (∀ k, fzap fc fn n r k = fc r k) ∧ ∀ i, zap M n r i = M r i := fun r hr => ⟨fun k => by unfold fzap; rw [if_neg (by omega)], fun i => by unfold zap; rw [if_neg (by omega)]⟩
/-- new int[s], new boolean[s] -/
theorem k_newa (C : CxK z l g q.2 n0 R cc nL own ret) {atype : ArrayType} {t s : Nat} {v : Int32} (ht : (t = 1 ∧ atype = .int) ∨ (t = 2 ∧ atype = .boolean)) (hw : Cond.arrayClass (newarray.typeOf atype) ∈ lw_tbl) (hk : q.1 n = (t, s)) (hv0 : ¬ v < 0) (hv : v.toNatClampNeg = s) (hb : s * 8 ≤ 536870912) (hR : k + 1 ≤ R.cells ∧ m + s ≤ R.slots) {fn : Nat → Nat → Nat} (d : decode cc pc = .ok (.newarray atype, 2))
    (kk : XK z g q nL Q (k + 1) (m + s) (pc + 2) L (.ref (q.2 + n) :: st) (fzap fc fn n) (n + 1) (zap M n)) : XK z g q nL Q k m pc L (.int v :: st) fc n M := by
  intro H locs ls hl hP hz hS
  have hRz := C.2.2.2.2.2.2.2.2.2.2.1
  have hK := C.2.2.2.2.2.2.2.1.1.1
  rcases ht with ⟨rfl, rfl⟩ | ⟨rfl, rfl⟩
  · refine va_newaK C.1 C.2.1 (k_hts C hw rfl) rfl d rfl hv0 hv (Nat.le_trans (Nat.mul_le_mul_left s (show componentBytes .int ≤ 8 by decide)) hb) (by rw [hRz]; exact hR.1) (by rw [hRz]; exact hR.2) hz fun H1 cA e1 z1 o1 _ hNm => ?_
    have hcA : cA = g.2.1 1 := Option.some.inj (hNm.symm.trans (hK.2 1 _ rfl).2)
    subst hcA
    rw [← hz] at o1
    exact kk H1 locs ls hl (push_P hP hz o1 (e := .inl (g.2.1 1, s, .inl (fun _ => 0))) (show va_at g.1 vwCl (q.2 + n, .inl (g.2.1 1, s, .inl (fun _ => 0))) H1 from e1) (kw_push hk (by show _ = (Sum.inl (g.2.1 1, s, .inl (zap M n n)) : va_E); rw [zap_self]) zap_hf)) (z1.trans (by omega)) (AK_put hS (by omega) o1)
  · refine va_newaK C.1 C.2.1 (k_hts C hw rfl) rfl d rfl hv0 hv (Nat.le_trans (Nat.mul_le_mul_left s (show componentBytes .boolean ≤ 8 by decide)) hb) (by rw [hRz]; exact hR.1) (by rw [hRz]; exact hR.2) hz fun H1 cA e1 z1 o1 _ hNm => ?_
    have hcA : cA = g.2.1 2 := Option.some.inj (hNm.symm.trans (hK.2 2 _ rfl).2)
    subst hcA
    rw [← hz] at o1
    exact kk H1 locs ls hl (push_P hP hz o1 (e := .inl (g.2.1 2, s, .inl (fun _ => 0))) (show va_at g.1 vwCl (q.2 + n, .inl (g.2.1 2, s, .inl (fun _ => 0))) H1 from e1) (kw_push hk (by show _ = (Sum.inl (g.2.1 2, s, .inl (zap M n n)) : va_E); rw [zap_self]) zap_hf)) (z1.trans (by omega)) (AK_put hS (by omega) o1)
/-- new Thing[s] -/
theorem k_newq (C : CxK z l g q.2 n0 R cc nL own ret) {idx s : Nat} {v : Int32} (hw : Cond.classLink own idx "RopeFerry$Thing" ∈ lw_tbl) (hk : q.1 n = (4, s)) (hv0 : ¬ v < 0) (hv : v.toNatClampNeg = s) (hb : s * 8 ≤ 536870912) (hR : k + 1 ≤ R.cells ∧ m + s ≤ R.slots) {fn : Nat → Nat → Nat} (d : decode cc pc = .ok (.anewarray idx, 3))
    (kk : XK z g q nL Q (k + 1) (m + s) (pc + 3) L (.ref (q.2 + n) :: st) (fzap fc fn n) (n + 1) (zap M n)) : XK z g q nL Q k m pc L (.int v :: st) fc n M := by
  intro H locs ls hl hP hz hS
  have hRz := C.2.2.2.2.2.2.2.2.2.2.1
  have hK := C.2.2.2.2.2.2.2.1.1.1
  subst hv
  refine W.anew C.1 C.2.1 C.2.2.2.1 (k_hts C hw rfl) (va_AO.use C.2.2.2.2.2.2.2.1.2.1) rfl d rfl hv0 (by omega) (by rw [hRz]; exact hR.1) (by rw [hRz]; exact hR.2) fun cA kA comp f1 f2 f3 f4 => ?_
  generalize hH1 : H.push ({ cls := cA, slots := Array.replicate v.toNatClampNeg .null, vm := .none } : Cell) = H1
  have z1 : H1.size = H.size + 1 := by rw [← hH1, Array.size_push]
  have e1 : H1[H.size]? = some (arrV cA v.toNatClampNeg (fun _ => .null)) := by rw [← hH1, Array.getElem?_push_size, ← arrV_new]
  have o1 : ∀ q : Nat, q < H.size → H1[q]? = H[q]? := fun q hq => by rw [← hH1, Array.getElem?_push, if_neg (Nat.ne_of_lt hq)]
  have hcA : cA = g.2.1 4 := by
    obtain ⟨_, _, _, _, _, h5⟩ := (hK.2 4 _ rfl).2
    exact Option.some.inj (f1.symm.trans h5)
  subst hcA
  rw [hz] at e1
  rw [show (F0 (zm z) pc ls (Value.int v :: st)).pc = pc from rfl]
  have hz' : H.size = q.2 + n := hz
  rw [show H.size = q.2 + n from hz]
  exact kk H1 locs ls hl (push_P hP hz o1 (e := .inl (g.2.1 4, v.toNatClampNeg, .inr (.inr (.inr (.inr (fun _ => none)))))) (show va_at g.1 vwCl (q.2 + n, .inl (g.2.1 4, v.toNatClampNeg, .inr (.inr (.inr (.inr (fun _ => none)))))) H1 from e1) (kw_push hk (by show _ = (Sum.inl (g.2.1 4, v.toNatClampNeg, .inr (.inr (.inr (.inr (fun i => ths g (zap M n n i)))))) : va_E); rw [zap_self]; rfl) zap_hf)) (z1.trans (by omega)) (AK_put hS (by omega) o1)
theorem arrV_ext {cI : ClassId} {N : Nat} {f f' : Nat → Value} (h : ∀ j, j < N → f j = f' j) : arrV cI N f = arrV cI N f' := by
  unfold arrV
  have : (Array.ofFn (n := N) fun j => f j.val) = Array.ofFn (n := N) fun j => f' j.val := congrArg _ (funext fun j => h j.val j.isLt)
  rw [this]
/-- new int[s][j]: the outer array, then the rows -/
theorem k_mna (C : CxK z l g q.2 n0 R cc nL own ret) {idx s j : Nat} {v u : Int32} (hw : Cond.classLink own idx "[[I" ∈ lw_tbl ∧ Cond.arrayClass .int ∈ lw_tbl) (hk : q.1 n = (5, s)) (hkr : ∀ i, i < s → q.1 (n + 1 + i) = (1, j)) (hv0 : ¬ v < 0) (hv : v.toNatClampNeg = s) (hu0 : ¬ u < 0) (hu : u.toNatClampNeg = j) (hb : s * 8 ≤ 536870912 ∧ j * 8 ≤ 536870912) (hR : k + (1 + s) ≤ R.cells ∧ m + (s + s * j) ≤ R.slots) (d : decode cc pc = .ok (.multianewarray idx 2, 4))
    (kk : XK z g q nL Q (k + 1 + s) (m + s + s * j) (pc + 4) L (.ref (q.2 + n) :: st) fc (n + 1 + s) (fun r i => if n ≤ r then 0 else M r i)) : XK z g q nL Q k m pc L (.int u :: .int v :: st) fc n M := by
  intro H locs ls hl hP hz hS
  have hRz := C.2.2.2.2.2.2.2.2.2.2.1
  have hK := C.2.2.2.2.2.2.2.1.1.1
  subst hv
  subst hu
  intro T hT Xs
  have hcb : componentBytes .int ≤ 8 := by decide
  obtain ⟨vm₁, cA, comp, hWm, fA, fC, hO, -, X', step⟩ := Xs.multianewarray2F (ty := .int) C.1 C.2.2.2.1 (k_hts C hw.1 rfl) C.2.2.2.2.2.2.2.1.2.2 (k_hts C hw.2 rfl) (g := F0 (zm z) pc ls (.int u :: .int v :: st)) rfl (by rw [C.2.1]; exact d) rfl hv0 hu0 (by omega) (Nat.le_trans (Nat.mul_le_mul_left _ hcb) hb.2) (by omega) rfl rfl (by rw [hRz]; exact hR.1) (by rw [hRz]; exact hR.2)
  have ec : comp = g.2.1 1 := Option.some.inj (fC.symm.trans (hK.2 1 _ rfl).2)
  have eA : cA = g.2.1 5 := Option.some.inj (fA.symm.trans (hK.2 5 _ rfl).2)
  subst ec
  subst eA
  generalize hF : Jvm.Free.Multi.fill (T.setVm vm₁) (g.2.1 5) (g.2.1 1) v.toNatClampNeg u.toNatClampNeg (defaultValue .int) v.toNatClampNeg = F at X' step
  have hTh : (T.setVm vm₁).heap = H := hT
  obtain ⟨f1, f2, -, -⟩ := Jvm.Free.Multi.fill_facts (T.setVm vm₁) (g.2.1 5) (g.2.1 1) v.toNatClampNeg u.toNatClampNeg (defaultValue .int) v.toNatClampNeg
  rw [hF, hTh] at f1 f2
  have hold : ∀ x : Nat, x < H.size → F.heap[x]? = H[x]? := fun x hx => by
    have := Jvm.Free.Multi.fill_old (T.setVm vm₁) (g.2.1 5) (g.2.1 1) v.toNatClampNeg u.toNatClampNeg (defaultValue .int) (a := x) (by rw [hTh]; exact hx) v.toNatClampNeg
    rw [hF, hTh] at this
    exact this
  have hrow : ∀ i : Nat, i < v.toNatClampNeg → F.heap[H.size + 1 + i]? = some (vp_cell (g.2.1 1) (u.toNatClampNeg, .inl (fun _ => 0))) := fun i hi => by
    have := Jvm.Free.Multi.fill_inner (T.setVm vm₁) (g.2.1 5) (g.2.1 1) v.toNatClampNeg u.toNatClampNeg (defaultValue .int) v.toNatClampNeg i hi
    rw [hF, hTh] at this
    rw [this]
    refine congrArg some ?_
    rw [vp_cell_i]
    exact arrV_new _ _ _
  have hout : Jvm.Free.Multi.outerC (g.2.1 5) v.toNatClampNeg H.size v.toNatClampNeg = vp_cell (g.2.1 5) (v.toNatClampNeg, .inr (.inr (.inr (.inr (fun i => some (q.2 + (n + 1 + i))))))) := by
    rw [vp_cell_q, vr_outer]
    refine arrV_ext fun i hi => ?_
    rw [if_pos hi, hz]
    exact congrArg va_rf (congrArg some (by omega))
  rw [hout, hz] at f2
  rw [hz] at f1 hold hrow
  have hP1 : va_P g.1 vwCl (wld g (kw q fc (n + 1 + v.toNatClampNeg)) (fun r i => if n ≤ r then 0 else M r i)) F.heap := by
    intro r x hx
    obtain ⟨hr, rfl⟩ := wld_in hx
    have hr : r < n + 1 + v.toNatClampNeg := hr
    by_cases h1 : r < n
    · have hold1 := hP r _ (wld_at (w := kw q fc n) h1)
      have hlt := hold1.lt
      rw [hz] at hlt
      have := hold1.kept (hold _ hlt)
      have e0 : ent g (kw q fc (n + 1 + v.toNatClampNeg)) (fun r i => if n ≤ r then 0 else M r i) r = ent g (kw q fc n) M r := by
        unfold ent
        have : (fun i => if n ≤ r then (0 : Int32) else M r i) = M r := funext fun i => by rw [if_neg (by omega)]
        show entk g (kw q fc (n + 1 + v.toNatClampNeg)) r (q.1 r).1 (q.1 r).2 (fun i => if n ≤ r then (0 : Int32) else M r i) = _
        rw [this]
        rfl
      rw [e0]
      exact this
    · have hzf : (fun i => if n ≤ r then (0 : Int32) else M r i) = fun _ => 0 := funext fun i => by rw [if_pos (by omega)]
      by_cases h2 : r = n
      · subst h2
        unfold ent
        rw [show (kw q fc (r + 1 + v.toNatClampNeg)).1 r = (5, v.toNatClampNeg) from hk]
        exact f2
      · obtain ⟨i, rfl⟩ : ∃ i, r = n + 1 + i := ⟨r - (n + 1), by omega⟩
        have hi : i < v.toNatClampNeg := by omega
        unfold ent
        rw [show (kw q fc (n + 1 + v.toNatClampNeg)).1 (n + 1 + i) = (1, u.toNatClampNeg) from hkr i hi]
        show F.heap[q.2 + (n + 1 + i)]? = some (vp_cell (g.2.1 1) (u.toNatClampNeg, .inl (fun j => if n ≤ n + 1 + i then (0 : Int32) else M (n + 1 + i) j)))
        rw [hzf, show q.2 + (n + 1 + i) = q.2 + n + 1 + i by omega]
        exact hrow i hi
  obtain ⟨t, a1, b1⟩ := kk F.heap locs ls hl hP1 (by rw [f1]; omega) (AK_put hS (by rw [f1, hz]; omega) (fun x hx => hold x (by rw [← hz]; exact hx))) F rfl X'
  refine ⟨t, step t ?_, b1⟩
  have e : T.heap.size = q.2 + n := by rw [hT]; exact hz
  rw [e]
  exact a1
/-- new of class ci -/
theorem k_new (C : CxK z l g q.2 n0 R cc nL own ret) {idx ci N : Nat} {Cn : String} {T : u_T} (hc : vwCl[ci]? = some (Cn, T, N)) (hC : CLs ci) (hw : Cond.classLink own idx Cn ∈ lw_tbl ∧ Cond.instantiable Cn N ∈ lw_tbl ∧ Cond.initialized Cn ∈ lw_tbl) (hk : q.1 n = (0, ci)) {fn : Nat → Nat → Nat} (hd : ∀ (ty : Nat → FieldType), (∀ k, k < N → parseFieldDescriptor (T k).2.2.1 = some (ty k)) → ∀ j, j < N → defaultValue (ty j) = en_f 0 (if fn n j = 0 then 0 else 1) 0) (hR : k + 1 ≤ R.cells ∧ m + N ≤ R.slots) (d : decode cc pc = .ok (.new idx, 3))
    (kk : XK z g q nL Q (k + 1) (m + N) (pc + 3) L (.ref (q.2 + n) :: st) (fzap fc fn n) (n + 1) (zap M n)) : XK z g q nL Q k m pc L st fc n M := by
  intro H locs ls hl hP hz hS
  have hRz := C.2.2.2.2.2.2.2.2.2.2.1
  have hK := C.2.2.2.2.2.2.2.1.1.1
  have hKn := hK.1 ci _ hc
  have hN := nfld_of hc
  obtain ⟨hin, ⟨ty, hty⟩, -⟩ := hC Cn T N hc
  refine W.newcK C.1 C.2.1 C.2.2.2.1 (k_hts C hw.1 rfl) (k_hts C hw.2.1 rfl) (k_hts C hw.2.2 rfl) rfl d (by rw [hRz]; exact hR.1) (by rw [hRz]; exact hR.2) hKn.2.1 hz fun H1 kC hkC e1 z1 o1 => ?_
  rw [← hz] at o1
  have hat : va_at g.1 vwCl (q.2 + n, .inr (ci, flds (kw q (fzap fc fn n) (n + 1)) n ci (fun _ => 0))) H1 := by
    refine ⟨_, hc, (u_born ty (k_htg C) hin hKn hkC e1 hty).to (fun j hj => ?_)⟩
    have h1 : (flds (kw q (fzap fc fn n) (n + 1)) n ci (fun _ => 0))[j]? = some (en_f q.2 (fzap fc fn n n j) 0) := flds_at (w := kw q (fzap fc fn n) (n + 1)) (by rw [hN]; exact hj)
    have h2 : vp_V (flds (kw q (fzap fc fn n) (n + 1)) n ci (fun _ => 0)) j = en_f q.2 (fzap fc fn n n j) 0 := by
      unfold vp_V
      rw [List.getD_eq_getElem?_getD, h1]
      rfl
    rw [h2, hd ty hty j hj]
    unfold fzap
    rw [if_pos rfl]
    split <;> rfl
  exact kk H1 locs ls hl (push_P hP hz o1 hat (kw_push hk (by show _ = (Sum.inr (ci, flds (kw q (fzap fc fn n) (n + 1)) n ci (zap M n n)) : va_E); rw [zap_self]) zap_hf)) (z1.trans (by omega)) (AK_put hS (by omega) o1)
/-- a constructor's contract: from the world (fc, n, M) to (fc', n', M') -/
def PK (g : GG) (q : KW) (fc : Nat → Nat → Nat) (n : Nat) (M : Mem) : State → Prop := fun U => U.heap.size = q.2 + n ∧ va_P g.1 vwCl (wld g (kw q fc n) M) U.heap ∧ KO g U ∧ Im g (AK q.2) U U.heap
def QK (g : GG) (q : KW) (fc : Nat → Nat → Nat) (n : Nat) (M : Mem) : Array Value → State → Outcome → State → Prop := fun _ st oc t => oc = .returned none ∧ t.heap.size = q.2 + n ∧ va_P g.1 vwCl (wld g (kw q fc n) M) t.heap ∧ va_F (AK q.2) st t
def CK (l : Launch) (g : GG) (q : KW) (rm : Room) (y : MethodName) (cc : ByteArray) (nL : Nat) (av : List Value) (fc : Nat → Nat → Nat) (n : Nat) (M : Mem) (fc' : Nat → Nat → Nat) (n' : Nat) (M' : Mem) (mc ms : Nat) : Prop :=
  Met l y (wsy y cc nL none) rm (va_Pc av (PK g q fc n M)) (QK g q fc' n' M') mc ms (AK q.2)
def rmk (d mc ms : Nat) : Room := { frames := d, cells := mc, slots := ms, locals := 64 * d }
theorem CK.of {y : MethodName} {d mc ms : Nat} {av : List Value} {fc' : Nat → Nat → Nat} {n' : Nat} {M' : Mem} (hy : plainFor y = true) (hn : av.length ≤ nL) (hc : ∀ v ∈ av, v.category = 1) (hyn : y.name = "<init>")
    (body : ∀ z : ZT, CxK z l g q.2 n (rmk d mc ms) cc nL y.cls none → (zt z).name = "<init>" → XK z g q nL (MQ (zb z) (QK g q fc' n' M') (za z) (zs z) mc ms (AK q.2)) 0 0 0 (av.map some ++ List.replicate (nL - av.length) none) [] fc n M) : CK l g q (rmk d mc ms) y cc nL av fc n M fc' n' M' mc ms := by
  refine ofWF (cc := cc) (maxL := nL) (ret := none) hy rfl ?_
  intro p e s m args below meth c s₁ B hml hP
  obtain ⟨rfl, hsz, hP, hK, hI⟩ := hP
  have hts := atoms_spec (ws := wsy y cc nL none) B.pre
  have hin : meth.name = "<init>" := (name_of_methodNamed B.named B.method).1.trans hyn
  have hX := body (p, l, e, rmk d mc ms, s, m, av.toArray, below, meth, c) ⟨B.exec, B.bytes, hml, findClass_of_methodNamed B.named, B.returns, B.notSynchronized, fun w hw hg => hts w (List.mem_cons_of_mem _ (Tg_in hw hg)), hK, hI, hsz, rfl, rfl⟩ hin s.heap [] _ (lh_entry av hn hc) hP hsz va_S.rf
  rw [lg_entry_eq]
  exact hX
theorem k_ret {mc ms : Nat} {fc' : Nat → Nat → Nat} {n' : Nat} {M' : Mem} (C : CxK z l g q.2 n0 R cc nL own none) (d : decode cc pc = .ok (.return_, 1)) (hk : k ≤ mc) (hm : m ≤ ms) (h1 : wld g (kw q fc n) M = wld g (kw q fc' n') M') (h2 : n = n') : XK z g q nL (MQ (zb z) (QK g q fc' n' M') (za z) (zs z) mc ms (AK q.2)) k m pc L [] fc n M := by
  intro H locs ls hl hP hz hS
  refine W.widen hk hm ?_
  exact W.vret C.1 C.2.1 C.2.2.2.2.1 (fun t ht _ => ⟨rfl, by rw [ht, hz, h2], by rw [ht, ← h1]; exact hP, hS.F ht⟩) hS.2.2 d C.2.2.2.2.2.1
theorem PK_blind {av : List Value} : FrameBlind (va_Pc av (PK g q fc n M)) := by
  intro a U fr mk h
  obtain ⟨h1, h2, h3, h4, h5⟩ := h
  exact ⟨h1, h2, h3, KO.same rfl h4, Im.moved (Vm.Alike.refl U.vm) h5⟩
theorem PK_of (C : CxK z l g q.2 n0 R cc nL own ret) {H : Heap} {locs : List Loc} (hP : va_P g.1 vwCl (wld g (kw q fc n) M) H) (hz : H.size = q.2 + n) (hS : va_S (AK q.2) (zs z).heap H locs) {U : State} (hU : U.heap = H) (hW : (zs z).WarmedH U.vm) : PK g q fc n M U := by
  refine ⟨by rw [hU]; exact hz, by rw [hU]; exact hP, KO.warm hW C.2.2.2.2.2.2.2.1, ?_⟩
  rw [hU]
  exact (C.2.2.2.2.2.2.2.2.1.kept hS.2.1).moved hW.alike
/-- behind a constructor's call -/
theorem k_ofRun {mc ms : Nat} {fc' : Nat → Nat → Nat} {n' : Nat} {M' : Mem} {st0 : List Value} {a9 : Array Value}
    (hr : ∀ (H : Heap) (locs : List Loc) (ls : Array Slot), lh ls nL L → va_P g.1 vwCl (wld g (kw q fc n) M) H → H.size = q.2 + n → va_S (AK q.2) (zs z).heap H locs → va_Run (zp z) (zl z) (ze z) (zR z) (zs z) (zm z) (za z) (zb z) (zt z) (zc z) H locs k m mc ms (F0 (zm z) pc ls st0) st (QK g q fc' n' M' a9) (AK q.2))
    (kk : XK z g q nL Q (k + mc) (m + ms) (pc + 3) L st fc' n' M') : XK z g q nL Q k m pc L st0 fc n M := by
  intro H locs ls hl hP hz hS
  intro T hT X
  obtain ⟨v, st₀, t, T', Ls, h0, X', hL, e1, e2, ⟨hv, hsz, hp, hz1, hk1⟩, step⟩ := hr H locs ls hl hP hz hS T hT X
  rw [h0] at hz1 hk1
  have hv' : v = none := Outcome.returned.inj hv
  subst hv'
  have hS' : va_S (AK q.2) (zs z).heap T'.heap (locs ++ Ls) := by
    refine ⟨Nat.le_trans hS.1 (by rw [e1]; exact hz1), fun x h1 h2 => ?_, fun x hx => ?_⟩
    · rw [e1, hk1 x (Nat.lt_of_lt_of_le h1 hS.1) h2]
      exact hS.2.1 x h1 h2
    · rcases List.mem_append.mp hx with h | h
      · exact hS.2.2 x h
      · exact hL x h
  obtain ⟨t2, a1, b1⟩ := kk T'.heap (locs ++ Ls) ls hl (by rw [e1]; exact hp) (by rw [e1]; exact hsz) hS' T' rfl X'
  exact ⟨t2, step t2 a1, b1⟩
/-- the words of a constructor's call, from the class itself -/
def LkI (own : String) (idx : Nat) (y : MethodName) (cc : ByteArray) (nL nA : Nat) : Prop :=
  Cond.code y cc nL none ∈ lw_tbl ∧ Cond.initialized y.cls ∈ lw_tbl ∧ Cond.methodLink own idx y ∈ lw_tbl ∧ Cond.instanceMethod y ∈ lw_tbl ∧ (y.cls ≠ "java/lang/invoke/MethodHandle" ∧ y.cls ≠ "java/lang/invoke/VarHandle") ∧ (parseMethodDescriptor y.desc).map (fun d => d.parameters.length) = some nA ∧ y.name = "<init>"
/-- the same, from a nest mate -/
def LkIN (own : String) (idx : Nat) (y : MethodName) (host : String) (cc : ByteArray) (nL nA : Nat) : Prop :=
  Cond.code y cc nL none ∈ lw_tbl ∧ Cond.initialized y.cls ∈ lw_tbl ∧ (own, idx, y, host) ∈ nstM ∧ Cond.instanceMethod y ∈ lw_tbl ∧ (y.cls ≠ "java/lang/invoke/MethodHandle" ∧ y.cls ≠ "java/lang/invoke/VarHandle") ∧ (parseMethodDescriptor y.desc).map (fun d => d.parameters.length) = some nA ∧ y.name = "<init>"
theorem k_init {mc ms d1 : Nat} {fc' : Nat → Nat → Nat} {n' : Nat} {M' : Mem} (C : CxK z l g q.2 n0 R cc nL own ret) {y : MethodName} {bytes : ByteArray} {mL nA idx a : Nat} {As : List Value} {st0 : List Value}
    (hM : CK l g q (rmk d1 mc ms) y bytes mL (.ref a :: As) fc n M fc' n' M' mc ms) (lk : LkI own idx y bytes mL nA) (hn : As.length = nA) (hst : st0 = As.reverse ++ .ref a :: st) (hW : (st.map fun v => v.category).sum ≤ 8) (hrm : d1 + 1 ≤ R.frames ∧ 8 + (mL + 11) + 64 * d1 ≤ R.locals) (hkn : k + mc ≤ R.cells ∧ m + ms ≤ R.slots) (d : decode cc pc = .ok (.invokespecial idx, 3))
    (kk : XK z g q nL Q (k + mc) (m + ms) (pc + 3) L st fc' n' M') : XK z g q nL Q k m pc L st0 fc n M := by
  obtain ⟨w1, w2, w3, w4, w6, w7, w8⟩ := lk
  have hl := C.2.2.2.2.2.2.2.2.2.2.2
  have hR := C.2.2.2.2.2.2.2.2.2.2.1
  refine k_ofRun (a9 := (Value.ref a :: As).toArray) (fun H locs ls hlh hP hz hS => ?_) kk
  refine va_runI (As := As) (rest := st) (index := idx) (nL := nL) (n := nA) ⟨C.1, C.2.1, C.2.2.1, C.2.2.2.1, k_htg C⟩ (by rw [hl]; exact hM) ⟨callB_of nA (k_htg C) (wsy_good w1) rfl rfl rfl (k_hts C w2 rfl) (k_hts C w3 rfl) ⟨w6.1, w6.2, w7⟩ (by rw [hR]; exact hrm), w8, k_hts C w4 rfl⟩ ⟨PK_blind, fun U hU hWm => ⟨rfl, PK_of C hP hz hS hU hWm⟩⟩ rfl hn hlh.1 hst (by show 2 * 0 + _ ≤ 8; omega) d (by rw [hR]; exact hkn)
theorem k_initN {mc ms d1 : Nat} {fc' : Nat → Nat → Nat} {n' : Nat} {M' : Mem} (C : CxK z l g q.2 n0 R cc nL own ret) {y : MethodName} {host : String} {bytes : ByteArray} {mL nA idx a : Nat} {As : List Value} {st0 : List Value}
    (hM : CK l g q (rmk d1 mc ms) y bytes mL (.ref a :: As) fc n M fc' n' M' mc ms) (lk : LkIN own idx y host bytes mL nA) (hn : As.length = nA) (hst : st0 = As.reverse ++ .ref a :: st) (hW : (st.map fun v => v.category).sum ≤ 8) (hrm : d1 + 1 ≤ R.frames ∧ 8 + (mL + 11) + 64 * d1 ≤ R.locals) (hkn : k + mc ≤ R.cells ∧ m + ms ≤ R.slots) (d : decode cc pc = .ok (.invokespecial idx, 3))
    (kk : XK z g q nL Q (k + mc) (m + ms) (pc + 3) L st fc' n' M') : XK z g q nL Q k m pc L st0 fc n M := by
  obtain ⟨w1, w2, w3, w4, w6, w7, w8⟩ := lk
  have hl := C.2.2.2.2.2.2.2.2.2.2.2
  have hR := C.2.2.2.2.2.2.2.2.2.2.1
  refine k_ofRun (a9 := (Value.ref a :: As).toArray) (fun H locs ls hlh hP hz hS => ?_) kk
  refine va_runIN (As := As) (rest := st) (index := idx) (nL := nL) (n := nA) (host := host) ⟨C.1, C.2.1, C.2.2.1, C.2.2.2.1, k_htg C⟩ (by rw [hl]; exact hM) ⟨va_cnB nA (k_htg C) (wsy_good w1) rfl rfl rfl (C.2.2.2.2.2.2.2.1.1.2.2.1 _ w3) (k_hts C w2 rfl) ⟨w6.1, w6.2, w7⟩ (by rw [hR]; exact hrm), w8, k_hts C w4 rfl⟩ ⟨PK_blind, fun U hU hWm => ⟨rfl, PK_of C hP hz hS hU hWm⟩⟩ rfl hn hlh.1 hst (by show 2 * 0 + _ ≤ 8; omega) d (by rw [hR]; exact hkn)
end Rows
