/-! Math.max, Math.min, arraycopy; the things, the Strings -/
def imax (x y : Int32) : Int32 := if x < y then y else x
def imin (x y : Int32) : Int32 := if y < x then y else x
def cpy (M : Mem) (a b n : Nat) : Mem := fun r i => if r = b ∧ i < n then M a i else M r i
def teq (x y : Int32) : Bool := x.toNatClampNeg % 30 == y.toNatClampNeg % 30
def slen (c : Nat) : Nat := (strB.getD c []).length
def schr (c j : Nat) : Int32 := (strB.getD c []).getD j 0
def LkM (own : String) (idx : Nat) (y : MethodName) (code : ByteArray) : Prop := Cond.methodLink own idx y ∈ lw_tbl ∧ Cond.static y ∈ lw_tbl ∧ Cond.initialized "java/lang/Math" ∈ lw_tbl ∧ Cond.code y code 2 (some .int) ∈ lw_tbl
def LkY (own : String) (idx : Nat) : Prop := Cond.methodLink own idx arraycopyName ∈ lw_tbl ∧ Cond.native arraycopyName ∈ lw_tbl ∧ Cond.static arraycopyName ∈ lw_tbl ∧ Cond.initialized "java/lang/System" ∈ lw_tbl
section Rows
variable {α : Type} {z : ZT} {l : Launch} {g : GG} {w : WD} {R : Room} {cc : ByteArray} {nL : Nat} {own : String} {ret : Option FieldType} {Qs : α → State → Prop} {k n pc : Nat} {L L' : List (Option Value)} {st : List Value} {M : Mem} {O A B : Option α}
theorem x_max (C : Cx z l g w R cc nL own ret) {idx : Nat} {x y : Int32} (lk : LkM own idx Lib.Math.max.name Lib.Math.max.code) (hW : (st.map fun v => v.category).sum ≤ 8) (hR : 1 ≤ R.frames ∧ 21 ≤ R.locals) (hkn : k ≤ R.cells ∧ n ≤ R.slots) (d : decode cc pc = .ok (.invokestatic idx, 3))
    (kk : XG z g w nL Qs k n (pc + 3) L (.int (imax x y) :: st) M O) : XG z g w nL Qs k n pc L (.int y :: .int x :: st) M O := by
  obtain ⟨w1, w2, w3, w4⟩ := lk
  have hRz := C.2.2.2.2.2.2.2.2.2.2.1
  exact fun a ha H locs ls hl hP hS => va_mmax C.1 C.2.1 (by rw [hl.1]; exact C.2.2.1) C.2.2.2.1 (x_hts C w1 rfl) (x_hts C w2 rfl) (x_hts C w3 rfl) (x_hts C w4 rfl) (by rw [hRz]; exact hR.1) (by rw [hRz]; omega) (by rw [hRz]; exact hkn.1) (by rw [hRz]; exact hkn.2) d (kk a ha H locs ls hl hP hS)
theorem x_min (C : Cx z l g w R cc nL own ret) {idx : Nat} {x y : Int32} (lk : LkM own idx Lib.Math.min.name Lib.Math.min.code) (hW : (st.map fun v => v.category).sum ≤ 8) (hR : 1 ≤ R.frames ∧ 21 ≤ R.locals) (hkn : k ≤ R.cells ∧ n ≤ R.slots) (d : decode cc pc = .ok (.invokestatic idx, 3))
    (kk : XG z g w nL Qs k n (pc + 3) L (.int (imin x y) :: st) M O) : XG z g w nL Qs k n pc L (.int y :: .int x :: st) M O := by
  obtain ⟨w1, w2, w3, w4⟩ := lk
  have hRz := C.2.2.2.2.2.2.2.2.2.2.1
  exact fun a ha H locs ls hl hP hS => va_mmin C.1 C.2.1 (by rw [hl.1]; exact C.2.2.1) C.2.2.2.1 (x_hts C w1 rfl) (x_hts C w2 rfl) (x_hts C w3 rfl) (x_hts C w4 rfl) (by rw [hRz]; exact hR.1) (by rw [hRz]; omega) (by rw [hRz]; exact hkn.1) (by rw [hRz]; exact hkn.2) d (kk a ha H locs ls hl hP hS)
/-- System.arraycopy(a, 0, b, 0, n) of two int arrays of n places at least -/
theorem x_copy (C : Cx z l g w R cc nL own ret) {idx a b n0 n1 : Nat} {m : Int32} {mn : Nat} (lk : LkY own idx) (hW : (st.map fun v => v.category).sum ≤ 8) (hR : 1 ≤ R.frames ∧ 50 ≤ R.locals) (ha : a < w.2.2.1) (hka : w.1 a = (1, n0)) (hb : b < w.2.2.1) (hkb : w.1 b = (1, n1)) (hm0 : ¬ m < 0) (hm : m.toNatClampNeg = mn) (h0 : mn ≤ n0) (h1 : mn ≤ n1) (d : decode cc pc = .ok (.invokestatic idx, 3))
    (kk : XG z g w nL Qs k n (pc + 3) L st (cpy M a b mn) O) : XG z g w nL Qs k n pc L (.int m :: .int 0 :: .ref (w.2.2.2 + b) :: .int 0 :: .ref (w.2.2.2 + a) :: st) M O := by
  obtain ⟨w1, w2, w3, w4⟩ := lk
  have hRz := C.2.2.2.2.2.2.2.2.2.2.1
  subst hm
  have hnf : nativeFrameWords "java/lang/System" "arraycopy" 5 ≤ 31 := by decide +kernel
  refine fun x hx H locs ls hl hP hS => va_copyi (c0 := g.2.1 1) (c1 := g.2.1 1) (ty := .int) (f := M a) (g := M b) C.1 C.2.1 (by rw [hl.1]; exact C.2.2.1) C.2.2.2.1 (x_hts C w1 rfl) (x_hts C w2 rfl) (x_hts C w3 rfl) (x_hts C w4 rfl) C.2.2.2.2.2.2.2.1.1 hP wld_D hS a b 1 1 (wld_k ha hka) (wld_k hb hkb) rfl rfl rfl (by decide) (by decide) hm0 (by show 0 + _ ≤ _; omega) (by show 0 + _ ≤ _; omega) (fun _ _ => rfl) (by rw [hRz]; exact hR.1) (by rw [hRz]; omega) d (fun H1 locs1 hP1 _ hS1 => kk x hx H1 locs1 ls hl ?_ hS1)
  have hs : (wld g w M).set b (w.2.2.2 + b, .inl (g.2.1 1, n1, .inl (va_cpy (M a) (M b) (0 : Int32).toNatClampNeg (0 : Int32).toNatClampNeg m.toNatClampNeg))) = wld g w (cpy M a b m.toNatClampNeg) := by
    apply List.ext_getElem?
    intro j
    by_cases hj : j = b
    · subst hj
      rw [List.getElem?_set_self (by simpa [wld] using hb), wld_k hb hkb]
      refine congrArg some (congrArg (Prod.mk _) (congrArg (fun f => (Sum.inl (g.2.1 1, n1, .inl f) : va_E)) (funext fun i => ?_)))
      show (if 0 ≤ i ∧ i < 0 + m.toNatClampNeg then M a (0 + (i - 0)) else M j i) = _
      simp [cpy]
    · rw [List.getElem?_set_ne (Ne.symm hj)]
      by_cases hl : j < w.2.2.1
      · rw [wld_at hl, wld_at hl]
        unfold ent
        refine congrArg some (congrArg (Prod.mk _) (congrArg (entk g w j _ _) (funext fun i => ?_)))
        simp [cpy, hj]
      · rw [List.getElem?_eq_none (by simp [wld]; omega), List.getElem?_eq_none (by simp [wld]; omega)]
  rw [hs] at hP1
  exact hP1
/-- a thing -/
def FLt (own : String) (idx k : Nat) : Prop := k < 29 ∧ (Cond.fieldLink own idx "RopeFerry$Thing" (thNm.getD k "") "LRopeFerry$Thing;" ∈ lw_tbl)
theorem x_gsT (C : Cx z l g w R cc nL own ret) {idx : Nat} (j : Nat) (x : Int32) (F : FLt own idx j) (hx : x.toNatClampNeg % 30 = j + 1) (d : decode cc pc = .ok (.getstatic idx, 3))
    (kk : XG z g w nL Qs k n (pc + 3) L (va_rf (ths g x) :: st) M O) : XG z g w nL Qs k n pc L st M O := by
  have he : ths g x = some (g.2.2.1 j) := by unfold ths; rw [hx]
  rw [he] at kk
  exact fun a ha H locs ls hl hP hS => va_gets C.1 C.2.1 ((C.2.2.2.2.2.2.2.2.1.1.1 j F.1).1) hS C.2.2.2.1 (x_hts C F.2 rfl) (fun x h => h) d (kk a ha H locs ls hl hP hS)
theorem ths_inj (C : Cx z l g w R cc nL own ret) {x y : Int32} : ths g x = ths g y ↔ teq x y = true := by
  unfold teq
  rw [beq_iff_eq]
  constructor
  · intro h
    cases hx : ths g x with
    | none =>
      rw [hx] at h
      unfold ths at hx h
      split at hx
      · next e1 =>
        split at h
        · next e2 => rw [e1, e2]
        · cases h
      · cases hx
    | some q =>
      obtain ⟨i, hi, rfl, e1⟩ := ths_lt hx
      obtain ⟨j, hj, e3, e2⟩ := ths_lt (h.symm.trans hx)
      have := C.2.2.2.2.2.2.2.2.1.1.2 i j hi hj e3
      rw [e1, e2, this]
  · intro h
    unfold ths
    rw [h]
theorem x_acmpne (C : Cx z l g w R cc nL own ret) {x y : Int32} {off : Int} {tgt : Nat} (d : decode cc pc = .ok (.if_acmp .ne off, 3)) (ht : (pc : Int) + off = (tgt : Int)) (kt : ¬ teq x y = true → XG z g w nL Qs k n tgt L st M B) (kf : teq x y = true → XG z g w nL Qs k n (pc + 3) L st M A) : XG z g w nL Qs k n pc L (va_rf (ths g y) :: va_rf (ths g x) :: st) M (if teq x y = true then A else B) :=
  x_brn (fun a b => lv_acmp_ne C.1 C.2.1 d ht (fun h => a (fun q => h ((ths_inj C).mpr q))) (fun h => b ((ths_inj C).mp h))) kt kf
theorem x_acmpeq (C : Cx z l g w R cc nL own ret) {x y : Int32} {off : Int} {tgt : Nat} (d : decode cc pc = .ok (.if_acmp .eq off, 3)) (ht : (pc : Int) + off = (tgt : Int)) (kt : teq x y = true → XG z g w nL Qs k n tgt L st M A) (kf : ¬ teq x y = true → XG z g w nL Qs k n (pc + 3) L st M B) : XG z g w nL Qs k n pc L (va_rf (ths g y) :: va_rf (ths g x) :: st) M (if teq x y = true then A else B) :=
  x_br (fun a b => lv_acmp_eq C.1 C.2.1 d ht (fun h => a ((ths_inj C).mp h)) (fun h => b (fun q => h ((ths_inj C).mpr q)))) kt kf
/-- the array of things -/
theorem x_gsA (C : Cx z l g w R cc nL own ret) {idx : Nat} (hw : (own, idx, "RopeFerry$Thing", "ALL", "[LRopeFerry$Thing;", "RopeFerry") ∈ nstF) (d : decode cc pc = .ok (.getstatic idx, 3))
    (kk : XG z g w nL Qs k n (pc + 3) L (.ref g.2.2.2.2.2 :: st) M O) : XG z g w nL Qs k n pc L st M O :=
  fun a ha H locs ls hl hP hS => va_getsN C.1 C.2.1 C.2.2.2.2.2.2.2.2.1.2.2.1.1 hS C.2.2.2.1 (va_Nw.use rfl (C.2.2.2.2.2.2.2.1.2.1 _ hw)) (fun x h => h) d (kk a ha H locs ls hl hP hS)
theorem x_lenA (C : Cx z l g w R cc nL own ret) (d : decode cc pc = .ok (.arraylength, 1)) (kk : XG z g w nL Qs k n (pc + 1) L (.int 29 :: st) M O) : XG z g w nL Qs k n pc L (.ref g.2.2.2.2.2 :: st) M O := by
  intro a ha H locs ls hl hP hS
  obtain ⟨cell, h1, h2, h3, h4, h5, h6, h7⟩ := C.2.2.2.2.2.2.2.2.1.2.2.1.2
  exact W.alen (n := 29) C.1 C.2.1 (by rw [hS.2.1 _ (Array.getElem?_eq_some_iff.mp h1).1 h7]; exact h1) h2 h5 rfl rfl d (kk a ha H locs ls hl hP hS)
/-- ALL[i], which is thing i, code i + 1 -/
theorem x_aldA (C : Cx z l g w R cc nL own ret) {i : Int32} (d : decode cc pc = .ok (.aaload, 1)) (he : inb i 29 = true → (i + 1).toNatClampNeg % 30 = i.toNatClampNeg + 1) (kk : inb i 29 = true → XG z g w nL Qs k n (pc + 1) L (va_rf (ths g (i + 1)) :: st) M O) : XG z g w nL Qs k n pc L (.int i :: .ref g.2.2.2.2.2 :: st) M (chk (inb i 29) O) := by
  refine x_chk fun hi => fun a ha H locs ls hl hP hS => ?_
  have hin := inb_in hi
  have he : ths g (i + 1) = some (g.2.2.1 i.toNatClampNeg) := by
    unfold ths
    rw [he hi]
  have kk' := kk hi
  rw [he] at kk'
  exact vb_tq C.1 C.2.1 C.2.2.2.2.2.2.2.2.1.2.2.1.2 hS hin (v := .ref (g.2.2.1 i.toNatClampNeg)) rfl d (kk' a ha H locs ls hl hP hS)
/-- the text of a thing -/
theorem x_getT (C : Cx z l g w R cc nL own ret) {idx j : Nat} {x : Int32} (hj : j < 29) (hx : x.toNatClampNeg % 30 = j + 1) (hw : (own, idx, "RopeFerry$Thing", "text", "Ljava/lang/String;", "RopeFerry") ∈ nstF) (d : decode cc pc = .ok (.getfield idx, 3))
    (kk : XG z g w nL Qs k n (pc + 3) L (.ref (g.2.2.2.1 (stx j)) :: st) M O) : XG z g w nL Qs k n pc L (va_rf (ths g x) :: st) M O := by
  have he : ths g x = some (g.2.2.1 j) := by unfold ths; rw [hx]
  rw [he]
  intro a ha H locs ls hl hP hS
  obtain ⟨cf, k9, i9, f9, cell, h1, h2, h3, h4, h5, h6⟩ := (C.2.2.2.2.2.2.2.2.1.2.1 j hj).kept hS.2.1
  exact va_Wgetf C.1 C.2.1 C.2.2.2.1 (va_Nw.use rfl (C.2.2.2.2.2.2.2.1.2.1 _ hw)) h1 h2 h3 h4 (v := .ref (g.2.2.2.1 (stx j))) h5 rfl rfl d (kk a ha H locs ls hl hP hS)
/-- a String constant -/
theorem x_ldcS (C : Cx z l g w R cc nL own ret) {idx i : Nat} {tx : String} (hi : strT[i]? = some (own, idx, tx)) (d : decode cc pc = .ok (.ldc idx, 2))
    (kk : XG z g w nL Qs k n (pc + 2) L (.ref (g.2.2.2.1 i) :: st) M O) : XG z g w nL Qs k n pc L st M O :=
  fun a ha H locs ls hl hP hS => va_ldcS C.1 C.2.1 C.2.2.2.1 (C.2.2.2.2.2.2.2.1.2.2.2.1 i _ hi) d (kk a ha H locs ls hl hP hS)
/-- a field of a constant object -/
theorem x_getO (C : Cx z l g w R cc nL own ret) {idx q : Nat} {o nm ds : String} {v : Value} (hE : va_OF o nm ds v q (AA w (zs z).heap.size) (zs z) (zs z).heap) (hw : Cond.fieldLink own idx o nm ds ∈ lw_tbl) (d : decode cc pc = .ok (.getfield idx, 3))
    (kk : XG z g w nL Qs k n (pc + 3) L (v :: st) M O) : XG z g w nL Qs k n pc L (.ref q :: st) M O :=
  fun a ha H locs ls hl hP hS => vk_getf C.1 C.2.1 hE hS C.2.2.2.1 (x_hts C hw rfl) (fun x h => h) d (kk a ha H locs ls hl hP hS)
theorem x_gsO (C : Cx z l g w R cc nL own ret) {idx : Nat} {o nm ds : String} {v : Value} (hZ : va_Z o nm ds v (AA w (zs z).heap.size) (zs z) (zs z).heap) (hw : Cond.fieldLink own idx o nm ds ∈ lw_tbl) (d : decode cc pc = .ok (.getstatic idx, 3))
    (kk : XG z g w nL Qs k n (pc + 3) L (v :: st) M O) : XG z g w nL Qs k n pc L st M O :=
  fun a ha H locs ls hl hP hS => va_gets C.1 C.2.1 hZ hS C.2.2.2.1 (x_hts C hw rfl) (fun x h => h) d (kk a ha H locs ls hl hP hS)
theorem x_lenO (C : Cx z l g w R cc nL own ret) {ty : FieldType} {t N : Nat} {f : Nat → Value} (hT : va_T ty t N f (AA w (zs z).heap.size) (zs z) (zs z).heap) {v : Int32} (hv : Int32.ofNat N = v) (d : decode cc pc = .ok (.arraylength, 1)) (kk : XG z g w nL Qs k n (pc + 1) L (.int v :: st) M O) : XG z g w nL Qs k n pc L (.ref t :: st) M O := by
  intro a ha H locs ls hl hP hS
  obtain ⟨cell, h1, h2, h3, h4, h5, h6, h7⟩ := hT
  exact W.alen C.1 C.2.1 (by rw [hS.2.1 _ (Array.getElem?_eq_some_iff.mp h1).1 h7]; exact h1) h2 (h5.trans hv) rfl rfl d (kk a ha H locs ls hl hP hS)
theorem x_bldO (C : Cx z l g w R cc nL own ret) {t N : Nat} {f : Nat → Value} (hT : va_T .byte t N f (AA w (zs z).heap.size) (zs z) (zs z).heap) {i : Int32} (hi : inb i N = true) {v : Value} (hv : f i.toNatClampNeg = v) (d : decode cc pc = .ok (.baload, 1)) (kk : XG z g w nL Qs k n (pc + 1) L (v :: st) M O) : XG z g w nL Qs k n pc L (.int i :: .ref t :: st) M O :=
  fun a ha H locs ls hl hP hS => va_tb C.1 C.2.1 hT hS (inb_in hi) hv d (kk a ha H locs ls hl hP hS)
theorem x_i2c (C : Cx z l g w R cc nL own ret) {x v : Int32} (d : decode cc pc = .ok (.i2c, 1)) (hv : (x.toUInt32 % 65536).toInt32 = v) (kk : XG z g w nL Qs k n (pc + 1) L (.int v :: st) M O) : XG z g w nL Qs k n pc L (.int x :: st) M O := x_one (fun _ v9 => lv_i2c C.1 C.2.1 d hv v9) kk
/-- a null or a cell -/
theorem x_nloadn (C : Cx z l g w R cc nL own ret) {i : Fin 4} {v : Value} (hv : v = .null ∨ ∃ a, v = .ref a) (d : decode cc pc = .ok (.aload_n i, 1)) (hl : L[i.val]? = some (some v)) (kk : XG z g w nL Qs k n (pc + 1) L (v :: st) M O) : XG z g w nL Qs k n pc L st M O := by
  rcases hv with rfl | ⟨a, rfl⟩
  · exact x_one (fun h w => lv_aload_nN C.1 C.2.1 d rfl (h.at hl) w) kk
  · exact x_one (fun h w => lv_aload_n C.1 C.2.1 d rfl (h.at hl) w) kk
end Rows
