/-! more rows of constructors; the law's world -/
section Rows
variable {z : ZT} {l : Launch} {g : GG} {q : KW} {R : Room} {cc : ByteArray} {nL : Nat} {own : String} {ret : Option FieldType} {Q : State → Prop} {k m pc n n0 : Nat} {L L' : List (Option Value)} {st : List Value} {M : Mem} {fc : Nat → Nat → Nat}
theorem k_iloadn (C : CxK z l g q.2 n0 R cc nL own ret) {i : Fin 4} {x : Int32} (d : decode cc pc = .ok (.iload_n i, 1)) (hl : L[i.val]? = some (some (.int x))) (kk : XK z g q nL Q k m (pc + 1) L (.int x :: st) fc n M) : XK z g q nL Q k m pc L st fc n M := k_one (fun h w => lv_iload_n C.1 C.2.1 d rfl (h.at hl) w) kk
theorem k_stg {pc' i : Nat} {v : Value} {st' : List Value} (hi : i < L.length) (hc : v.category = 1) (hL : L.set i (some v) = L') (h : ∀ {H : Heap} {locs : List Loc} {ls : Array Slot}, lh ls nL L → i < nL →
      (∀ ls' : Array Slot, lv_has ls' nL ((i, v) :: (lpl L).filter (fun q => !(q.1 == i) && !(q.1 + 1 == i && q.2.category == 2))) → W (zp z) (zl z) (ze z) (zR z) (zs z) (zm z) (za z) (zb z) (zt z) (zc z) H locs k m Q (F0 (zm z) pc' ls' st')) → W (zp z) (zl z) (ze z) (zR z) (zs z) (zm z) (za z) (zb z) (zt z) (zc z) H locs k m Q (F0 (zm z) pc ls st))
    (kk : XK z g q nL Q k m pc' L' st' fc n M) : XK z g q nL Q k m pc L st fc n M :=
  fun H locs ls hl hP hz hS => by
    have hi' : i < nL := by rw [← hl.2.2.1]; exact hi
    exact h hl hi' (fun ls' h' => kk H locs ls' (hl.st hi' hc h' hL) hP hz hS)
theorem k_istoren (C : CxK z l g q.2 n0 R cc nL own ret) {i : Fin 4} {x : Int32} (d : decode cc pc = .ok (.istore_n i, 1)) (hi : i.val < L.length) (hL : L.set i.val (some (.int x)) = L') (kk : XK z g q nL Q k m (pc + 1) L' st fc n M) : XK z g q nL Q k m pc L (.int x :: st) fc n M :=
  k_stg hi rfl hL (fun h hn w => lv_istore_n C.1 C.2.1 d rfl h.has hn rfl w) kk
theorem k_astoren (C : CxK z l g q.2 n0 R cc nL own ret) {i : Fin 4} {x : Nat} (d : decode cc pc = .ok (.astore_n i, 1)) (hi : i.val < L.length) (hL : L.set i.val (some (.ref x)) = L') (kk : XK z g q nL Q k m (pc + 1) L' st fc n M) : XK z g q nL Q k m pc L (.ref x :: st) fc n M :=
  k_stg hi rfl hL (fun h hn w => lv_astore_n C.1 C.2.1 d rfl h.has hn rfl w) kk
theorem k_iinc (C : CxK z l g q.2 n0 R cc nL own ret) {i : Nat} {j : Int} {x v : Int32} (d : decode cc pc = .ok (.iinc i j, 3)) (hl : L[i]? = some (some (.int x))) (hv : x + Int32.ofInt j = v) (hL : L.set i (some (.int v)) = L') (kk : XK z g q nL Q k m (pc + 3) L' st fc n M) : XK z g q nL Q k m pc L st fc n M :=
  k_stg (List.getElem?_eq_some_iff.mp hl).1 rfl hL (fun h hn w => by
    obtain ⟨q, hq⟩ := List.getElem?_of_mem (lpl_mem.mpr hl)
    exact lv_iinc C.1 C.2.1 d h.has hq hv hn rfl w) kk
theorem k_iadd (C : CxK z l g q.2 n0 R cc nL own ret) {x y : Int32} (d : decode cc pc = .ok (.iadd, 1)) (kk : XK z g q nL Q k m (pc + 1) L (.int (x + y) :: st) fc n M) : XK z g q nL Q k m pc L (.int y :: .int x :: st) fc n M := k_one (fun _ w => lv_iadd C.1 C.2.1 d w) kk
theorem k_goto (C : CxK z l g q.2 n0 R cc nL own ret) {off : Int} {tgt : Nat} (d : decode cc pc = .ok (.goto off, 3)) (ht : (pc : Int) + off = (tgt : Int)) (kk : XK z g q nL Q k m tgt L st fc n M) : XK z g q nL Q k m pc L st fc n M := k_one (fun _ w => lv_goto C.1 C.2.1 d ht w) kk
theorem k_icmpge (C : CxK z l g q.2 n0 R cc nL own ret) {x y : Int32} {off : Int} {tgt : Nat} (d : decode cc pc = .ok (.if_icmp .ge off, 3)) (ht : (pc : Int) + off = (tgt : Int)) (kt : y ≤ x → XK z g q nL Q k m tgt L st fc n M) (kf : ¬ y ≤ x → XK z g q nL Q k m (pc + 3) L st fc n M) : XK z g q nL Q k m pc L (.int y :: .int x :: st) fc n M :=
  fun H locs ls hl hP hz hS => lv_icmp_ge C.1 C.2.1 d ht (fun h => kt h H locs ls hl hP hz hS) (fun h => kf h H locs ls hl hP hz hS)
theorem k_iast (C : CxK z l g q.2 n0 R cc nL own ret) {r len : Nat} {i v : Int32} {j : Nat} (hr : r < n) (hk : q.1 r = (1, len)) (hi : inb i len = true) (hj : i.toNatClampNeg = j) (d : decode cc pc = .ok (.iastore, 1))
    (kk : XK z g q nL Q k m (pc + 1) L st fc n (wr M r j v)) : XK z g q nL Q k m pc L (.int v :: .int i :: .ref (q.2 + r) :: st) fc n M := by
  subst hj
  intro H locs ls hl hP hz hS
  have hin := inb_in hi
  have hK := C.2.2.2.2.2.2.2.1.1.1
  have ha := wld_k (g := g) (w := kw q fc n) (M := M) hr hk
  refine W.iast C.1 C.2.1 (hP r _ ha) ((hK.2 1 _ rfl).1 len (fun j => .int (M r j))) (fun q => by cases q) (by show ¬ (i < 0 ∨ (arrV _ _ _).slots.size ≤ _); rw [arrV_size]; exact hin) rfl rfl d fun H1 e z1 oq => ?_
  have e' : va_at g.1 vwCl (q.2 + r, .inl (g.2.1 1, len, .inl (upd (M r) i.toNatClampNeg v))) H1 := by
    show H1[q.2 + r]? = some (vp_cell _ _)
    rw [e, vp_cell_i]
    show some ((vp_cell (g.2.1 1) (len, .inl (M r))).setSlot i.toNatClampNeg (.int v)) = _
    rw [vp_cell_i, arrV_store]
    show some (arrV (g.2.1 1) len _) = some (arrV (g.2.1 1) len (fun j => .int (upd (M r) i.toNatClampNeg v j)))
    refine congrArg some (congrArg (arrV (g.2.1 1) len) (funext fun x => ?_))
    by_cases hx : x = i.toNatClampNeg <;> simp [updV, upd, hx]
  have hP1 := hP.set kw_D ha e' oq
  rw [show (wld g (kw q fc n) M).set r (q.2 + r, .inl (g.2.1 1, len, .inl (upd (M r) i.toNatClampNeg v))) = wld g (kw q fc n) (wr M r i.toNatClampNeg v) from wld_set (w := kw q fc n) hk rfl] at hP1
  exact kk H1 _ ls hl hP1 (z1.trans hz) (hS.put z1 oq (Nat.le_add_right _ _))
def fillM (M : Mem) (p len : Nat) (v : Int32) : Mem := fun r i => if r = p ∧ i < len then v else M r i
/-- a call that makes nothing, over the world as it stands -/
theorem k_callS {rm : Room} (C : CxK z l g q.2 n0 R cc nL own ret) {y : MethodName} {bytes : ByteArray} {mL nA idx : Nat} {As : List Value} {M' : Mem} {st0 : List Value}
    (hM : CT l g (kw q fc n) rm y bytes mL none As M finV (some M')) (lk : LkS own idx y bytes mL none nA) (hn : As.length = nA) (hst : st0 = As.reverse ++ st) (hW : (st.map fun v => v.category).sum ≤ 8) (hrm : rm.cells = 0 ∧ rm.slots = 0 ∧ rm.frames + 1 ≤ R.frames ∧ 8 + (mL + 11) + rm.locals ≤ R.locals) (hkn : k ≤ R.cells ∧ m ≤ R.slots) (hnk : n = n0 + k) (d : decode cc pc = .ok (.invokestatic idx, 3))
    (kk : XK z g q nL Q k m (pc + 3) L st fc n M') : XK z g q nL Q k m pc L st0 fc n M := by
  obtain ⟨w1, w2, w3, w4, w6, w7⟩ := lk
  have hl := C.2.2.2.2.2.2.2.2.2.2.2
  have hR := C.2.2.2.2.2.2.2.2.2.2.1
  intro H locs ls hlh hP hz hS T hT X
  have hAs : ∀ x, AA (kw q fc n) H.size x → AK q.2 x := fun x hx => hx.elim (fun ⟨r, _, e⟩ => by rw [e]; exact Nat.le_add_right _ _) (fun h => by have h9 : H.size ≤ x := h; show q.2 ≤ x; omega)
  have hr : va_Run (zp z) (zl z) (ze z) (zR z) (zs z) (zm z) (za z) (zb z) (zt z) (zc z) H locs k m 0 0 (F0 (zm z) pc ls st0) st (QF g (kw q fc n) (finV M') As.toArray) (AA (kw q fc n) H.size) := by
    refine va_runS (As := As) (rest := st) (index := idx) (nL := nL) (n := nA) ⟨C.1, C.2.1, C.2.2.1, C.2.2.2.1, k_htg C⟩ (by rw [hl]; exact hM H.size M' rfl) ⟨callB_of nA (k_htg C) (wsy_good w1) rfl hrm.1 hrm.2.1 (k_hts C w2 rfl) (k_hts C w3 rfl) ⟨w6.1, w6.2, w7⟩ (by rw [hR]; exact ⟨hrm.2.2.1, hrm.2.2.2⟩), k_hts C w4 rfl⟩ ⟨PF_blind, fun U hU hWm => ⟨rfl, ?_⟩⟩ rfl hn hlh.1 hst (by show 2 * 0 + _ ≤ 8; omega) d (by rw [hR]; exact ⟨by omega, by omega⟩)
    refine ⟨by rw [hU], by rw [hU]; exact hP, KK.warm hWm C.2.2.2.2.2.2.2.1.1, ?_, by show q.2 + n ≤ _; omega⟩
    rw [hU]
    exact ((C.2.2.2.2.2.2.2.2.1.kept hS.2.1).narrow hAs).moved hWm.alike
  obtain ⟨v, st₀, t, T', Ls, h0, X', hL, e1, e2, ⟨hv, hp, hz1, hk1⟩, step⟩ := hr T hT X
  rw [h0] at hz1 hk1
  have hv' : v = none := Outcome.returned.inj hv
  subst hv'
  have hsz : T'.heap.size = q.2 + n := by
    have h1 : (zs z).heap.size ≤ T'.heap.size ∧ T'.heap.size ≤ (zs z).heap.size + (k + 0) := ⟨X'.same.2.1, X'.same.2.2.1⟩
    have h2 := C.2.2.2.2.2.2.2.2.2.1
    rw [e1] at h1 ⊢
    omega
  have hS' : va_S (AK q.2) (zs z).heap T'.heap (locs ++ Ls) := by
    refine ⟨Nat.le_trans hS.1 (by rw [e1]; exact hz1), fun x h1 h2 => ?_, fun x hx => ?_⟩
    · rw [e1, hk1 x (Nat.lt_of_lt_of_le h1 hS.1) (fun y => h2 (hAs x y))]
      exact hS.2.1 x h1 h2
    · rcases List.mem_append.mp hx with h | h
      · exact hS.2.2 x h
      · exact hAs _ (hL x h)
  obtain ⟨t2, a1, b1⟩ := kk T'.heap (locs ++ Ls) ls hlh (by rw [e1]; exact hp) hsz hS' T' rfl X'
  exact ⟨t2, step t2 a1, b1⟩
end Rows
def kdL (r : Nat) : Nat × Nat := if r < 95 then kdC r else if r < 111 then kdM (r - 95) else (3, 1)
def fcL (r f : Nat) : Nat := if r < 95 then fcC r f else if r < 111 then (if fcM (r - 95) f = 0 then 0 else fcM (r - 95) f + 95) else 0
