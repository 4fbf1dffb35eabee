/-! String.length, String.charAt of the constants -/
theorem cxI {z : ZT} {l : Launch} {g : GG} {w : WD} {R : Room} {cc : ByteArray} {nL : Nat} {own : String} {ret : Option FieldType} (C : Cx z l g w R cc nL own ret) : Im g (AA w (zs z).heap.size) (zs z) (zs z).heap := C.2.2.2.2.2.2.2.2.1
theorem schr_all (c j : Nat) : ((schr c j &&& 255).toUInt32 % 65536).toInt32 = schr c j ∧ narrow .char (.int (schr c j)) = .int (schr c j) := by
  have key : ∀ l ∈ ([] :: strB), ∀ b ∈ ((0 : Int32) :: l), ((b &&& 255).toUInt32 % 65536).toInt32 = b ∧ narrow .char (.int b) = .int b := by decide +kernel
  unfold schr
  refine key (strB.getD c []) ?_ _ ?_
  · rw [List.getD_eq_getElem?_getD]
    cases h : strB[c]? with
    | none => exact List.mem_cons_self
    | some q => exact List.mem_cons_of_mem _ (List.mem_of_getElem? h)
  · rw [List.getD_eq_getElem?_getD (l := strB.getD c [])]
    cases h : (strB.getD c [])[j]? with
    | none => exact List.mem_cons_self
    | some q => exact List.mem_cons_of_mem _ (List.mem_of_getElem? h)
theorem stx_lt (k : Nat) : stx k < 58 := by
  have key : ∀ x ∈ ((0 : Nat) :: [31, 31, 31, 32, 33, 34, 35, 36, 41, 42, 43, 40, 37, 38, 39, 45, 57, 56, 46, 49, 50, 51, 52, 44, 47, 48, 54, 55, 53]), x < 58 := by decide
  unfold stx
  refine key _ ?_
  rw [List.getD_eq_getElem?_getD]
  cases h : ([31, 31, 31, 32, 33, 34, 35, 36, 41, 42, 43, 40, 37, 38, 39, 45, 57, 56, 46, 49, 50, 51, 52, 44, 47, 48, 54, 55, 53] : List Nat)[k]? with
  | none => exact List.mem_cons_self
  | some q => exact List.mem_cons_of_mem _ (List.mem_of_getElem? h)
theorem aldA_lt {i : Int32} (h : inb i 29 = true) : i.toNatClampNeg < 29 := Nat.not_le.mp fun q => inb_in h (Or.inr q)
theorem ix_succ {i : Int32} {n : Nat} (h : inb i n = true) (hn : n < 2 ^ 31) : (i + 1).toNatClampNeg = i.toNatClampNeg + 1 := by
  have hin := inb_in h
  have hlt : i.toNatClampNeg < n := Nat.not_le.mp fun q => hin (Or.inr q)
  have h0 : ¬ i < 0 := fun q => hin (Or.inl q)
  have hz : (0 : Int) ≤ i.toInt := by
    have := Int32.not_lt.mp h0
    rw [Int32.le_iff_toInt_le] at this
    simpa using this
  have e0 : i.toInt = (i.toNatClampNeg : Int) := by
    unfold Int32.toNatClampNeg
    omega
  have e2 : (i + 1).toInt = i.toInt + 1 := by
    rw [Int32.toInt_add]
    have : (1 : Int32).toInt = 1 := by decide
    rw [this, Int.bmod_eq_of_le_mul_two (by omega) (by omega)]
  have e3 : (i + 1).toNatClampNeg = ((i.toNatClampNeg : Int) + 1).toNat := by
    unfold Int32.toNatClampNeg at e0 ⊢
    rw [e2]
    omega
  rw [e3]
  omega
theorem aldA_ix {i : Int32} (h : inb i 29 = true) : (i + 1).toNatClampNeg % 30 = i.toNatClampNeg + 1 := by
  have := aldA_lt h
  rw [ix_succ h (by decide), Nat.mod_eq_of_lt (by omega)]
section Str
variable {l : Launch} {g : GG} {w : WD} {M : Mem}
set_option maxRecDepth 20000 in
theorem c_js_coder {c : Nat} (hc : c < 58) : CT l g w (rmd 1) yJ0_coder_7d493 cJ0_coder_7d493 1 (some .byte) [.ref (g.2.2.2.1 c)] M (finI M) (some 0) := by
  refine CT.of rfl (Nat.le_of_ble_eq_true rfl) (by simp [Value.category]) (fun z C => ?_)
  have C : Cx z l g w (rmd 1) cJ0_coder_7d493 1 RJ0 (some .byte) := C
  refine x_wk (L' := [some (.ref (g.2.2.2.1 c))]) (And.intro rfl trivial) ?_
  refine x_gsO C (cxI C).2.2.2.2.1 (tb3 238 _ rfl) dJ0_coder_7d493_0 ?_
  refine x_eq (A := if (1 : Int32) = 0 then none else some (0 : Int32)) (by decide) ?_
  refine x_ifeq C dJ0_coder_7d493_3 (tgt := 13) (by decide) (fun _ => x_none) (fun _ => ?_)
  refine x_aloadn C dJ0_coder_7d493_6 rfl ?_
  refine x_getO C ((cxI C).2.2.2.1 c hc).2.1 (tb8 30 _ rfl) dJ0_coder_7d493_7 ?_
  refine x_goto C dJ0_coder_7d493_10 (tgt := 14) (by decide) ?_
  exact x_zret C dJ0_coder_7d493_14 rfl rfl
set_option maxRecDepth 20000 in
theorem c_js_isLatin1 {c : Nat} (hc : c < 58) : CT l g w (rmd 1) yJ0_isLatin1_aae02 cJ0_isLatin1_aae02 1 (some .boolean) [.ref (g.2.2.2.1 c)] M (finI M) (some 1) := by
  refine CT.of rfl (Nat.le_of_ble_eq_true rfl) (by simp [Value.category]) (fun z C => ?_)
  have C : Cx z l g w (rmd 1) cJ0_isLatin1_aae02 1 RJ0 (some .boolean) := C
  refine x_wk (L' := [some (.ref (g.2.2.2.1 c))]) (And.intro rfl trivial) ?_
  refine x_gsO C (cxI C).2.2.2.2.1 (tb3 238 _ rfl) dJ0_isLatin1_aae02_0 ?_
  refine x_eq (A := if (1 : Int32) = 0 then none else some (1 : Int32)) (by decide) ?_
  refine x_ifeq C dJ0_isLatin1_aae02_3 (tgt := 17) (by decide) (fun _ => x_none) (fun _ => ?_)
  refine x_aloadn C dJ0_isLatin1_aae02_6 rfl ?_
  refine x_getO C ((cxI C).2.2.2.1 c hc).2.1 (tb8 30 _ rfl) dJ0_isLatin1_aae02_7 ?_
  refine x_eq (A := if (0 : Int32) = 0 then some (1 : Int32) else none) (by decide) ?_
  refine x_ifne C dJ0_isLatin1_aae02_10 (tgt := 17) (by decide) (fun _ => x_none) (fun _ => ?_)
  refine x_iconst C dJ0_isLatin1_aae02_13 (v := (1 : Int32)) (by decide) ?_
  refine x_goto C dJ0_isLatin1_aae02_14 (tgt := 18) (by decide) ?_
  exact x_zret C dJ0_isLatin1_aae02_18 rfl rfl
theorem recvS {z : ZT} {R : Room} {cc : ByteArray} {nL : Nat} {own : String} {ret : Option FieldType} (C : Cx z l g w R cc nL own ret) {c : Nat} (hc : c < 58) (H : Heap) (hP : va_P g.1 vwCl (wld g w M) H) (locs : List Loc) (hS : va_S (AA w (zs z).heap.size) (zs z).heap H locs) : ∃ cellB : Cell, H[g.2.2.2.1 c]? = some cellB ∧ cellB.vm.isStatics = false ∧ (zs z).vm.findClass RJ0 = some cellB.cls := by
  obtain ⟨cell, h1, h2, h3, -⟩ := ((cxI C).2.2.2.1 c hc).1.kept hS.2.1
  exact ⟨cell, h1, h2, h3⟩
set_option maxRecDepth 20000 in
theorem c_js_length {c : Nat} (hc : c < 58) : CT l g w (rmd 2) yJ0_length_8abf5 cJ0_length_8abf5 1 (some .int) [.ref (g.2.2.2.1 c)] M (finI M) (some (Int32.ofNat (slen c))) := by
  refine CT.of rfl (Nat.le_of_ble_eq_true rfl) (by simp [Value.category]) (fun z C => ?_)
  have C : Cx z l g w (rmd 2) cJ0_length_8abf5 1 RJ0 (some .int) := C
  refine x_wk (L' := [some (.ref (g.2.2.2.1 c))]) (And.intro rfl trivial) ?_
  refine x_aloadn C dJ0_length_8abf5_0 rfl ?_
  refine x_getO C ((cxI C).2.2.2.1 c hc).2.2.1 (tb8 29 _ rfl) dJ0_length_8abf5_1 ?_
  refine x_lenO C ((cxI C).2.2.2.1 c hc).2.2.2 (v := Int32.ofNat (slen c)) rfl dJ0_length_8abf5_4 ?_
  refine x_aloadn C dJ0_length_8abf5_5 rfl ?_
  refine x_eq (A := (some (0 : Int32)).bind (fun v => some (Int32.ofNat (slen c) >>> (v &&& 31)))) (congrArg some ?_) ?_
  · rw [show (0 : Int32) &&& 31 = 0 by decide]
    exact (Int32.shiftRight_zero).symm
  refine x_callV (As := []) (st := [.int (Int32.ofNat (slen c))]) C (c_js_coder hc) lk_J0_335 (recvS C hc) rfl rfl (Nat.le_of_ble_eq_true rfl) (rmok_d (by decide) (by decide)) ⟨Nat.zero_le _, Nat.zero_le _⟩ dJ0_length_8abf5_6 (fun v _ => ?_)
  refine x_ishr (x := Int32.ofNat (slen c)) (y := v) (st := []) C dJ0_length_8abf5_9 ?_
  exact x_iret C dJ0_length_8abf5_10 rfl
set_option maxRecDepth 20000 in
theorem c_jp_checkIndex {i n : Int32} {v : Value} (hv : v = .null ∨ ∃ a, v = .ref a) : CT l g w (rmd 1) yJ3_checkIndex_8e157 cJ3_checkIndex_8e157 3 (some .int) [.int i, .int n, v] M (finI M) (chk (decide (¬ i < 0) && decide (i < n)) (some i)) := by
  have hcat : v.category = 1 := by rcases hv with rfl | ⟨a, rfl⟩ <;> rfl
  refine CT.of rfl (Nat.le_of_ble_eq_true rfl) (by simp [Value.category]; exact hcat) (fun z C => ?_)
  have C : Cx z l g w (rmd 1) cJ3_checkIndex_8e157 3 RJ3 (some .int) := C
  refine x_wk (L' := [some (.int i), some (.int n), none]) (And.intro rfl (And.intro rfl trivial)) ?_
  refine x_chk fun hb => ?_
  rw [Bool.and_eq_true, decide_eq_true_eq, decide_eq_true_eq] at hb
  refine x_eq (A := if i < 0 then none else if i < n then some i else none) (by rw [if_neg hb.1, if_pos hb.2]) ?_
  refine x_iloadn C dJ3_checkIndex_8e157_0 (x := i) rfl ?_
  refine x_iflt C dJ3_checkIndex_8e157_1 (tgt := 9) (by decide) (fun _ => x_none) (fun _ => ?_)
  refine x_iloadn C dJ3_checkIndex_8e157_4 (x := i) rfl ?_
  refine x_iloadn C dJ3_checkIndex_8e157_5 (x := n) rfl ?_
  refine x_icmplt C dJ3_checkIndex_8e157_6 (tgt := 16) (by decide) (fun _ => ?_) (fun _ => x_none)
  refine x_iloadn C dJ3_checkIndex_8e157_16 (x := i) rfl ?_
  exact x_iret C dJ3_checkIndex_8e157_17 rfl
set_option maxRecDepth 20000 in
theorem c_js_checkIndex {i n : Int32} : CT l g w (rmd 2) yJ0_checkIndex_df160 cJ0_checkIndex_df160 2 none [.int i, .int n] M finV (chk (decide (¬ i < 0) && decide (i < n)) (some M)) := by
  refine CT.of rfl (Nat.le_of_ble_eq_true rfl) (by simp [Value.category]) (fun z C => ?_)
  have C : Cx z l g w (rmd 2) cJ0_checkIndex_df160 2 RJ0 none := C
  refine x_wk (L' := [some (.int i), some (.int n)]) (And.intro rfl (And.intro rfl trivial)) ?_
  refine x_iloadn C dJ0_checkIndex_df160_0 (x := i) rfl ?_
  refine x_iloadn C dJ0_checkIndex_df160_1 (x := n) rfl ?_
  obtain ⟨v, hv, hZ⟩ := (cxI C).2.2.2.2.2.1
  have hcat : v.category = 1 := by rcases hv with rfl | ⟨a, rfl⟩ <;> rfl
  refine x_gsO C hZ (tb4 14 _ rfl) dJ0_checkIndex_df160_2 ?_
  refine x_eq (A := (chk (decide (¬ i < 0) && decide (i < n)) (some i)).bind (fun _ => some M)) (by cases (decide (¬ i < 0) && decide (i < n)) <;> rfl) ?_
  refine x_Si (st := []) C (c_jp_checkIndex hv) lk_J0_1059 rfl rfl (Nat.le_of_ble_eq_true rfl) (rmok_d (by decide) (by decide)) ⟨Nat.zero_le _, Nat.zero_le _⟩ dJ0_checkIndex_df160_5 (fun u => ?_)
  refine x_pop C dJ0_checkIndex_df160_8 rfl ?_
  exact x_vret C dJ0_checkIndex_df160_9 rfl
theorem slen_lt {c : Nat} : slen c < 2 ^ 31 := by
  have key : ∀ l ∈ ([] :: strB), l.length < 2 ^ 31 := by decide +kernel
  unfold slen
  refine key _ ?_
  rw [List.getD_eq_getElem?_getD]
  cases h : strB[c]? with
  | none => exact List.mem_cons_self
  | some q => exact List.mem_cons_of_mem _ (List.mem_of_getElem? h)
set_option maxRecDepth 20000 in
theorem c_j1_charAt {c : Nat} (hc : c < 58) {i : Int32} : CT l g w (rmd 3) yJ1_charAt_3b067 cJ1_charAt_3b067 2 (some .char) [.ref (g.2.2.2.2.1 c), .int i] M (finI M) (chk (inb i (slen c)) (some (schr c i.toNatClampNeg))) := by
  refine CT.of rfl (Nat.le_of_ble_eq_true rfl) (by simp [Value.category]) (fun z C => ?_)
  have C : Cx z l g w (rmd 3) cJ1_charAt_3b067 2 RJ1 (some .char) := C
  refine x_wk (L' := [some (.ref (g.2.2.2.2.1 c)), some (.int i)]) (And.intro rfl (And.intro rfl trivial)) ?_
  refine x_chk fun hi => ?_
  have hin := inb_in hi
  have hlt : i.toNatClampNeg < slen c := Nat.not_le.mp fun q => hin (Or.inr q)
  have h0 : ¬ i < 0 := fun q => hin (Or.inl q)
  have h1 : i < Int32.ofNat (slen c) := by
    rw [Int32.lt_iff_toInt_lt]
    have e1 : (Int32.ofNat (slen c)).toInt = (slen c : Int) := nI_toInt slen_lt
    have e0 : i.toInt ≤ (i.toNatClampNeg : Int) := by
      unfold Int32.toNatClampNeg
      omega
    omega
  refine x_iloadn C dJ1_charAt_3b067_0 (x := i) rfl ?_
  refine x_aloadn C dJ1_charAt_3b067_1 rfl ?_
  refine x_lenO C ((cxI C).2.2.2.1 c hc).2.2.2 (v := Int32.ofNat (slen c)) rfl dJ1_charAt_3b067_2 ?_
  refine x_eq (A := (chk (decide (¬ i < 0) && decide (i < Int32.ofNat (slen c))) (some M)).bind (fun _ => some (schr c i.toNatClampNeg))) (by simp [h0, h1, chk]) ?_
  intro a ha
  have hM2 : ∀ M1, (chk (decide (¬ i < 0) && decide (i < Int32.ofNat (slen c))) (some M)) = some M1 → M1 = M := fun M1 h => (Option.some.inj (chk_some h).2).symm
  revert a ha
  refine x_callS (st := []) C (c_js_checkIndex (i := i) (n := Int32.ofNat (slen c))) lk_J1_9 rfl rfl (Nat.le_of_ble_eq_true rfl) (rmok_d (by decide) (by decide)) ⟨Nat.zero_le _, Nat.zero_le _⟩ dJ1_charAt_3b067_3 (fun M1 hM1 => ?_)
  have hM1 := hM2 M1 hM1
  subst hM1
  show XG z g w 2 (ZQ z g w (finI M1)) 0 0 6 [some (.ref (g.2.2.2.2.1 c)), some (.int i)] [] M1 (some (schr c i.toNatClampNeg))
  refine x_aloadn C dJ1_charAt_3b067_6 rfl ?_
  refine x_iloadn C dJ1_charAt_3b067_7 (x := i) rfl ?_
  refine x_bldO C ((cxI C).2.2.2.1 c hc).2.2.2 hi (v := .int (schr c i.toNatClampNeg)) rfl dJ1_charAt_3b067_8 ?_
  refine x_sipush C dJ1_charAt_3b067_9 (v := 255) (by decide) ?_
  refine x_iand C dJ1_charAt_3b067_12 ?_
  refine x_i2c C dJ1_charAt_3b067_13 (v := schr c i.toNatClampNeg) (schr_all _ _).1 ?_
  exact x_zret C dJ1_charAt_3b067_14 (schr_all _ _).2 rfl
set_option maxRecDepth 20000 in
theorem c_js_charAt {c : Nat} (hc : c < 58) {i : Int32} : CT l g w (rmd 4) yJ0_charAt_5068e cJ0_charAt_5068e 2 (some .char) [.ref (g.2.2.2.1 c), .int i] M (finI M) (chk (inb i (slen c)) (some (schr c i.toNatClampNeg))) := by
  refine CT.of rfl (Nat.le_of_ble_eq_true rfl) (by simp [Value.category]) (fun z C => ?_)
  have C : Cx z l g w (rmd 4) cJ0_charAt_5068e 2 RJ0 (some .char) := C
  refine x_wk (L' := [some (.ref (g.2.2.2.1 c)), some (.int i)]) (And.intro rfl (And.intro rfl trivial)) ?_
  refine x_aloadn C dJ0_charAt_5068e_0 rfl ?_
  refine x_eq (A := (some (1 : Int32)).bind (fun v => if v = 0 then none else (chk (inb i (slen c)) (some (schr c i.toNatClampNeg))).bind some)) (by cases inb i (slen c) <;> rfl) ?_
  refine x_callV (As := []) (st := []) C (c_js_isLatin1 hc) lk_J0_492 (recvS C hc) rfl rfl (Nat.le_of_ble_eq_true rfl) (rmok_d (by decide) (by decide)) ⟨Nat.zero_le _, Nat.zero_le _⟩ dJ0_charAt_5068e_1 (fun v _ => ?_)
  refine x_ifeq (x := v) (st := []) C dJ0_charAt_5068e_4 (tgt := 16) (by decide) (fun _ => x_none) (fun _ => ?_)
  refine x_aloadn C dJ0_charAt_5068e_7 rfl ?_
  refine x_getO C ((cxI C).2.2.2.1 c hc).2.2.1 (tb8 29 _ rfl) dJ0_charAt_5068e_8 ?_
  refine x_iloadn C dJ0_charAt_5068e_11 (x := i) rfl ?_
  refine x_callS (As := [.ref (g.2.2.2.2.1 c), .int i]) (st := []) C (c_j1_charAt hc (i := i)) lk_J0_495 rfl rfl (Nat.le_of_ble_eq_true rfl) (rmok_d (by decide) (by decide)) ⟨Nat.zero_le _, Nat.zero_le _⟩ dJ0_charAt_5068e_12 (fun v hv => ?_)
  have hv := (chk_some hv).2
  cases hv
  exact x_zret (v := schr c i.toNatClampNeg) C dJ0_charAt_5068e_15 (schr_all _ _).2 rfl
variable {α : Type} {z : ZT} {R : Room} {cc : ByteArray} {nL : Nat} {own : String} {ret : Option FieldType} {Qs : α → State → Prop} {k n pc : Nat} {L L' : List (Option Value)} {st : List Value} {O A B : Option α}
theorem x_slen (C : Cx z l g w R cc nL own ret) {c idx : Nat} (hc : c < 58) (lk : LkV own idx yJ0_length_8abf5 cJ0_length_8abf5 1 (some .int) 0) (hW : (st.map fun v => v.category).sum ≤ 8) (hrm : rmok (rmd 2) R 1) (hkn : k ≤ R.cells ∧ n ≤ R.slots) (d : decode cc pc = .ok (.invokevirtual idx, 3))
    (kk : XG z g w nL Qs k n (pc + 3) L (.int (Int32.ofNat (slen c)) :: st) M O) : XG z g w nL Qs k n pc L (.ref (g.2.2.2.1 c) :: st) M O := by
  refine x_eq (A := (some (Int32.ofNat (slen c))).bind (fun _ => O)) rfl ?_
  refine x_callV (As := []) (st := st) C (c_js_length hc) lk (recvS C hc) rfl rfl hW hrm hkn d (fun v hv => ?_)
  cases hv
  exact kk
theorem x_sch (C : Cx z l g w R cc nL own ret) {c idx : Nat} {i : Int32} (hc : c < 58) (lk : LkV own idx yJ0_charAt_5068e cJ0_charAt_5068e 2 (some .char) 1) (hW : (st.map fun v => v.category).sum ≤ 8) (hrm : rmok (rmd 4) R 2) (hkn : k ≤ R.cells ∧ n ≤ R.slots) (d : decode cc pc = .ok (.invokevirtual idx, 3))
    (kk : XG z g w nL Qs k n (pc + 3) L (.int (schr c i.toNatClampNeg) :: st) M O) : XG z g w nL Qs k n pc L (.int i :: .ref (g.2.2.2.1 c) :: st) M (chk (inb i (slen c)) O) := by
  refine x_eq (A := (chk (inb i (slen c)) (some (schr c i.toNatClampNeg))).bind (fun _ => O)) (by cases inb i (slen c) <;> rfl) ?_
  refine x_callV (As := [.int i]) (st := st) C (c_js_charAt hc (i := i)) lk (recvS C hc) rfl rfl hW hrm hkn d (fun v hv => ?_)
  have hv := (chk_some hv).2
  cases hv
  exact kk
theorem x_qload (C : Cx z l g w R cc nL own ret) {i : Nat} {o : Option Nat} (d : decode cc pc = .ok (.aload i, 2)) (hl : L[i]? = some (some (va_rf o))) (kk : XG z g w nL Qs k n (pc + 2) L (va_rf o :: st) M O) : XG z g w nL Qs k n pc L st M O := by
  cases o with
  | none => exact x_one (fun h w => lv_aloadN C.1 C.2.1 d (h.at hl) w) kk
  | some a => exact x_one (fun h w => lv_aload C.1 C.2.1 d (h.at hl) w) kk
theorem x_qstore (C : Cx z l g w R cc nL own ret) {i : Nat} {o : Option Nat} (d : decode cc pc = .ok (.astore i, 2)) (hi : i < L.length) (hL : L.set i (some (va_rf o)) = L') (kk : XG z g w nL Qs k n (pc + 2) L' st M O) : XG z g w nL Qs k n pc L (va_rf o :: st) M O := by
  cases o with
  | none => exact x_stg hi rfl hL (fun h hn w => lv_astoreN C.1 C.2.1 d h.has hn rfl w) kk
  | some a => exact x_stg hi rfl hL (fun h hn w => lv_astore C.1 C.2.1 d h.has hn rfl w) kk
end Str
