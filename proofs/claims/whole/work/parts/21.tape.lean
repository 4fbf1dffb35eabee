def tp_append_L3 (p1 : Int32) (K : Mem → Option Mem) : Nat → Int32 → Mem → Option Mem
  | 0, _, _ => none
  | fu + 1, x2, M => (if x2 < 0 then K (M) else (if (M 1 1) < (400 : Int32) then chk (inb (M 1 1) 400) (lt1 (wr M 2 (M 1 1).toNatClampNeg ((p1 >>> (x2 &&& 31)) &&& (255 : Int32))) fun M1 => lt1 (wr M1 1 1 ((M1 1 1) + (1 : Int32))) fun M2 => tp_append_L3 p1 K fu ((x2 + (-8 : Int32))) (M2)) else K (M)))
def tp_append (p1 : Int32) (M : Mem) : Option Mem := tp_append_L3 p1 (fun M4 => some M4) FU ((24 : Int32)) M
set_option maxHeartbeats 4000000 in
set_option maxRecDepth 20000 in
theorem w_tp_append_L3 {z : ZT} {l : Launch} {g : GG} {b : Nat} (C : Cx z l g (wC b) (rmd 1) cX9_append 3 RX9 none) (p1 : Int32) {K : Mem → Option Mem} (hK : ∀ (M : Mem) , XG z g (wC b) 3 (ZQ z g (wC b) finV) 0 0 49 [none, none, none] [] M (K M)) : ∀ (fu : Nat) (x2 : Int32) (M : Mem), XG z g (wC b) 3 (ZQ z g (wC b) finV) 0 0 3 [some (.ref ((wC b).2.2.2 + 1)), some (.int p1), some (.int x2)] [] M (tp_append_L3 p1 K fu x2 M) := by
  intro fu
  induction fu with
  | zero => intro x2 M; exact x_none
  | succ fu ih =>
    intro x2 M
    rw [tp_append_L3]
    refine x_iloadn C dX9_append_3 (x := x2) rfl ?_
    refine x_iflt C dX9_append_4 (tgt := 49) (by decide) (fun _h => ?_) (fun _h => ?_)
    · exact x_wk (L' := [none, none, none]) (trivial) (hK (M))
    · refine x_aloadn C dX9_append_7 rfl ?_
      refine x_getI C fl_X9_15 cl_9 nC1 kC1 fC1_1 dX9_append_8 ?_
      refine x_sipush C dX9_append_11 (v := (400 : Int32)) (by decide) ?_
      refine x_icmpge C dX9_append_14 (tgt := 49) (by decide) (fun _h => ?_) (fun _h => ?_)
      · exact x_wk (L' := [none, none, none]) (trivial) (hK (M))
      · refine x_aloadn C dX9_append_17 rfl ?_
        refine x_getR C fl_X9_9 cl_9 (2) nC1 kC1 fC1_0 dX9_append_18 ?_
        refine x_aloadn C dX9_append_21 rfl ?_
        refine x_getI C fl_X9_15 cl_9 nC1 kC1 fC1_1 dX9_append_22 ?_
        refine x_iloadn C dX9_append_25 (x := p1) rfl ?_
        refine x_iloadn C dX9_append_26 (x := x2) rfl ?_
        refine x_ishr C dX9_append_27 ?_
        refine x_sipush C dX9_append_28 (v := (255 : Int32)) (by decide) ?_
        refine x_iand C dX9_append_31 ?_
        refine x_iast C nC2 kC2 dX9_append_32 ?_
        refine x_ltM (fun M1 => ?_)
        refine x_aloadn C dX9_append_33 rfl ?_
        refine x_dup C dX9_append_34 rfl ?_
        refine x_getI C fl_X9_15 cl_9 nC1 kC1 fC1_1 dX9_append_35 ?_
        refine x_iconst C dX9_append_38 (v := (1 : Int32)) (by decide) ?_
        refine x_iadd C dX9_append_39 ?_
        refine x_putI C fl_X9_15 cl_9 fint_9_1 nC1 kC1 fC1_1 dX9_append_40 ?_
        refine x_ltM (fun M2 => ?_)
        refine x_iinc C dX9_append_43 (v := (x2 + (-8 : Int32))) rfl rfl (L' := [some (.ref ((wC b).2.2.2 + 1)), some (.int p1), some (.int (x2 + (-8 : Int32)))]) rfl ?_
        refine x_goto C dX9_append_46 (tgt := 3) (by decide) ?_
        exact x_wk (L' := [some (.ref ((wC b).2.2.2 + 1)), some (.int p1), some (.int (x2 + (-8 : Int32)))]) (And.intro rfl (And.intro rfl (And.intro rfl trivial))) (ih ((x2 + (-8 : Int32))) (M2))
set_option maxHeartbeats 4000000 in
set_option maxRecDepth 20000 in
theorem c_tp_append {l : Launch} {g : GG} {b : Nat} (p1 : Int32) (M : Mem) : CT l g (wC b) (rmd 1) yX9_append cX9_append 3 none [.ref ((wC b).2.2.2 + 1), .int p1] M finV (tp_append p1 M) := by
  refine CT.of rfl (Nat.le_of_ble_eq_true rfl) (catc rfl (catc rfl cat0)) (fun z C => ?_)
  have C : Cx z l g (wC b) (rmd 1) cX9_append 3 RX9 none := C
  refine x_wk (L' := [some (.ref ((wC b).2.2.2 + 1)), some (.int p1), none]) (And.intro rfl (And.intro rfl trivial)) ?_
  rw [tp_append]
  refine x_bipush C dX9_append_0 (v := (24 : Int32)) (by decide) ?_
  refine x_istoren C dX9_append_2 (L' := [some (.ref ((wC b).2.2.2 + 1)), some (.int p1), some (.int (24 : Int32))]) (ltb rfl) rfl ?_
  refine x_wk (L' := [some (.ref ((wC b).2.2.2 + 1)), some (.int p1), some (.int (24 : Int32))]) (And.intro rfl (And.intro rfl (And.intro rfl trivial))) (w_tp_append_L3 C p1   (fun M4 => ?_) FU ((24 : Int32)) M)
  exact x_vret C dX9_append_49 rfl
def tp_isDigit (p1 : Int32) (M : Mem) : Option Int32 := (if p1 < (48 : Int32) then some ((0 : Int32)) else (if (57 : Int32) < p1 then some ((0 : Int32)) else some ((1 : Int32))))
set_option maxHeartbeats 4000000 in
set_option maxRecDepth 20000 in
theorem c_tp_isDigit {l : Launch} {g : GG} {b : Nat} (p1 : Int32) (M : Mem) : CT l g (wC b) (rmd 1) yX9_isDigit cX9_isDigit 1 (some .boolean) [.int p1] M (finI M) (tp_isDigit p1 M) := by
  refine CT.of rfl (Nat.le_of_ble_eq_true rfl) (catc rfl cat0) (fun z C => ?_)
  have C : Cx z l g (wC b) (rmd 1) cX9_isDigit 1 RX9 (some .boolean) := C
  refine x_wk (L' := [some (.int p1)]) (And.intro rfl trivial) ?_
  rw [tp_isDigit]
  refine x_iloadn C dX9_isDigit_0 (x := p1) rfl ?_
  refine x_bipush C dX9_isDigit_1 (v := (48 : Int32)) (by decide) ?_
  refine x_icmplt C dX9_isDigit_3 (tgt := 16) (by decide) (fun _h => ?_) (fun _h => ?_)
  · refine x_iconst C dX9_isDigit_16 (v := (0 : Int32)) (by decide) ?_
    exact x_zret C dX9_isDigit_17 rfl rfl
  · refine x_iloadn C dX9_isDigit_6 (x := p1) rfl ?_
    refine x_bipush C dX9_isDigit_7 (v := (57 : Int32)) (by decide) ?_
    refine x_icmpgt C dX9_isDigit_9 (tgt := 16) (by decide) (fun _h => ?_) (fun _h => ?_)
    · refine x_iconst C dX9_isDigit_16 (v := (0 : Int32)) (by decide) ?_
      exact x_zret C dX9_isDigit_17 rfl rfl
    · refine x_iconst C dX9_isDigit_12 (v := (1 : Int32)) (by decide) ?_
      refine x_goto C dX9_isDigit_13 (tgt := 17) (by decide) ?_
      exact x_zret C dX9_isDigit_17 rfl rfl
def tp_isLetter (p1 : Int32) (M : Mem) : Option Int32 := (if p1 < (97 : Int32) then some ((0 : Int32)) else (if (122 : Int32) < p1 then some ((0 : Int32)) else some ((1 : Int32))))
set_option maxHeartbeats 4000000 in
set_option maxRecDepth 20000 in
theorem c_tp_isLetter {l : Launch} {g : GG} {b : Nat} (p1 : Int32) (M : Mem) : CT l g (wC b) (rmd 1) yX9_isLetter cX9_isLetter 1 (some .boolean) [.int p1] M (finI M) (tp_isLetter p1 M) := by
  refine CT.of rfl (Nat.le_of_ble_eq_true rfl) (catc rfl cat0) (fun z C => ?_)
  have C : Cx z l g (wC b) (rmd 1) cX9_isLetter 1 RX9 (some .boolean) := C
  refine x_wk (L' := [some (.int p1)]) (And.intro rfl trivial) ?_
  rw [tp_isLetter]
  refine x_iloadn C dX9_isLetter_0 (x := p1) rfl ?_
  refine x_bipush C dX9_isLetter_1 (v := (97 : Int32)) (by decide) ?_
  refine x_icmplt C dX9_isLetter_3 (tgt := 16) (by decide) (fun _h => ?_) (fun _h => ?_)
  · refine x_iconst C dX9_isLetter_16 (v := (0 : Int32)) (by decide) ?_
    exact x_zret C dX9_isLetter_17 rfl rfl
  · refine x_iloadn C dX9_isLetter_6 (x := p1) rfl ?_
    refine x_bipush C dX9_isLetter_7 (v := (122 : Int32)) (by decide) ?_
    refine x_icmpgt C dX9_isLetter_9 (tgt := 16) (by decide) (fun _h => ?_) (fun _h => ?_)
    · refine x_iconst C dX9_isLetter_16 (v := (0 : Int32)) (by decide) ?_
      exact x_zret C dX9_isLetter_17 rfl rfl
    · refine x_iconst C dX9_isLetter_12 (v := (1 : Int32)) (by decide) ?_
      refine x_goto C dX9_isLetter_13 (tgt := 17) (by decide) ?_
      exact x_zret C dX9_isLetter_17 rfl rfl
def tp_goOn_J14 (p1 : Int32) (p2 : Int32) (M : Mem) : Option Int32 := (tp_isLetter (p1) M).bind fun v2 => (if v2 = 0 then some ((0 : Int32)) else (tp_isLetter (p2) M).bind fun v3 => (if v3 = 0 then some ((0 : Int32)) else some ((1 : Int32))))
def tp_goOn (p1 : Int32) (p2 : Int32) (M : Mem) : Option Int32 := (tp_isDigit (p1) M).bind fun v1 => (if v1 = 0 then tp_goOn_J14 p1 p2 M else (tp_isDigit (p2) M).bind fun v4 => (if v4 = 0 then tp_goOn_J14 p1 p2 M else some ((1 : Int32))))
set_option maxHeartbeats 4000000 in
set_option maxRecDepth 20000 in
theorem w_tp_goOn_J14 {z : ZT} {l : Launch} {g : GG} {b : Nat} (C : Cx z l g (wC b) (rmd 2) cX9_goOn 2 RX9 (some .boolean)) (p1 : Int32) (p2 : Int32) (M : Mem)  : XG z g (wC b) 2 (ZQ z g (wC b) (finI M)) 0 0 14 [some (.int p1), some (.int p2)] [] M (tp_goOn_J14 p1 p2 M) := by
  rw [tp_goOn_J14]
  refine x_iloadn C dX9_goOn_14 (x := p1) rfl ?_
  refine x_Si (st := []) C (c_tp_isLetter  (p1) M) lk_X9_88 rfl rfl (Nat.le_of_ble_eq_true rfl) (rmok_d (by decide) (by decide)) ⟨Nat.zero_le _, Nat.zero_le _⟩ dX9_goOn_15 (fun v2 => ?_)
  refine x_ifeq C dX9_goOn_18 (tgt := 32) (by decide) (fun _h => ?_) (fun _h => ?_)
  · refine x_iconst C dX9_goOn_32 (v := (0 : Int32)) (by decide) ?_
    exact x_zret C dX9_goOn_33 rfl rfl
  · refine x_iloadn C dX9_goOn_21 (x := p2) rfl ?_
    refine x_Si (st := []) C (c_tp_isLetter  (p2) M) lk_X9_88 rfl rfl (Nat.le_of_ble_eq_true rfl) (rmok_d (by decide) (by decide)) ⟨Nat.zero_le _, Nat.zero_le _⟩ dX9_goOn_22 (fun v3 => ?_)
    refine x_ifeq C dX9_goOn_25 (tgt := 32) (by decide) (fun _h => ?_) (fun _h => ?_)
    · refine x_iconst C dX9_goOn_32 (v := (0 : Int32)) (by decide) ?_
      exact x_zret C dX9_goOn_33 rfl rfl
    · refine x_iconst C dX9_goOn_28 (v := (1 : Int32)) (by decide) ?_
      refine x_goto C dX9_goOn_29 (tgt := 33) (by decide) ?_
      exact x_zret C dX9_goOn_33 rfl rfl
set_option maxHeartbeats 4000000 in
set_option maxRecDepth 20000 in
theorem c_tp_goOn {l : Launch} {g : GG} {b : Nat} (p1 : Int32) (p2 : Int32) (M : Mem) : CT l g (wC b) (rmd 2) yX9_goOn cX9_goOn 2 (some .boolean) [.int p1, .int p2] M (finI M) (tp_goOn p1 p2 M) := by
  refine CT.of rfl (Nat.le_of_ble_eq_true rfl) (catc rfl (catc rfl cat0)) (fun z C => ?_)
  have C : Cx z l g (wC b) (rmd 2) cX9_goOn 2 RX9 (some .boolean) := C
  refine x_wk (L' := [some (.int p1), some (.int p2)]) (And.intro rfl (And.intro rfl trivial)) ?_
  rw [tp_goOn]
  refine x_iloadn C dX9_goOn_0 (x := p1) rfl ?_
  refine x_Si (st := []) C (c_tp_isDigit  (p1) M) lk_X9_49 rfl rfl (Nat.le_of_ble_eq_true rfl) (rmok_d (by decide) (by decide)) ⟨Nat.zero_le _, Nat.zero_le _⟩ dX9_goOn_1 (fun v1 => ?_)
  refine x_ifeq C dX9_goOn_4 (tgt := 14) (by decide) (fun _h => ?_) (fun _h => ?_)
  · exact x_wk (L' := [some (.int p1), some (.int p2)]) (And.intro rfl (And.intro rfl trivial)) (w_tp_goOn_J14 C p1 p2  M  )
  · refine x_iloadn C dX9_goOn_7 (x := p2) rfl ?_
    refine x_Si (st := []) C (c_tp_isDigit  (p2) M) lk_X9_49 rfl rfl (Nat.le_of_ble_eq_true rfl) (rmok_d (by decide) (by decide)) ⟨Nat.zero_le _, Nat.zero_le _⟩ dX9_goOn_8 (fun v4 => ?_)
    refine x_ifne C dX9_goOn_11 (tgt := 28) (by decide) (fun _h => ?_) (fun _h => ?_)
    · refine x_iconst C dX9_goOn_28 (v := (1 : Int32)) (by decide) ?_
      refine x_goto C dX9_goOn_29 (tgt := 33) (by decide) ?_
      exact x_zret C dX9_goOn_33 rfl rfl
    · exact x_wk (L' := [some (.int p1), some (.int p2)]) (And.intro rfl (And.intro rfl trivial)) (w_tp_goOn_J14 C p1 p2  M  )
def tp_numberOf_L5 (p1 : Int32) (p2 : Int32) (M : Mem) (K : Int32 → Option Int32) : Nat → Int32 → Int32 → Option Int32
  | 0, _, _ => none
  | fu + 1, x3, x4 => (if x4 < p2 then chk (inb x4 400) (lt1 (((((10 : Int32) * x3) + (M 2 x4.toNatClampNeg)) - (48 : Int32))) fun v1 => tp_numberOf_L5 p1 p2 M K fu (v1) ((x4 + (1 : Int32)))) else K (x3))
def tp_numberOf (p1 : Int32) (p2 : Int32) (M : Mem) : Option Int32 := tp_numberOf_L5 p1 p2 M (fun v3_1 => some (v3_1)) FU ((0 : Int32)) (p1)
set_option maxHeartbeats 4000000 in
set_option maxRecDepth 20000 in
theorem w_tp_numberOf_L5 {z : ZT} {l : Launch} {g : GG} {b : Nat} (C : Cx z l g (wC b) (rmd 1) cX9_numberOf 5 RX9 (some .int)) (p1 : Int32) (p2 : Int32) (M : Mem) {K : Int32 → Option Int32} (hK : ∀ (x3 : Int32) , XG z g (wC b) 5 (ZQ z g (wC b) (finI M)) 0 0 33 [none, none, none, some (.int x3), none] [] M (K x3)) : ∀ (fu : Nat) (x3 : Int32) (x4 : Int32), XG z g (wC b) 5 (ZQ z g (wC b) (finI M)) 0 0 5 [some (.ref ((wC b).2.2.2 + 1)), none, some (.int p2), some (.int x3), some (.int x4)] [] M (tp_numberOf_L5 p1 p2 M K fu x3 x4) := by
  intro fu
  induction fu with
  | zero => intro x3 x4; exact x_none
  | succ fu ih =>
    intro x3 x4
    rw [tp_numberOf_L5]
    refine x_iload C dX9_numberOf_5 (x := x4) rfl ?_
    refine x_iloadn C dX9_numberOf_7 (x := p2) rfl ?_
    refine x_icmpge C dX9_numberOf_8 (tgt := 33) (by decide) (fun _h => ?_) (fun _h => ?_)
    · exact x_wk (L' := [none, none, none, some (.int x3), none]) (And.intro rfl trivial) (hK (x3))
    · refine x_bipush C dX9_numberOf_11 (v := (10 : Int32)) (by decide) ?_
      refine x_iloadn C dX9_numberOf_13 (x := x3) rfl ?_
      refine x_imul C dX9_numberOf_14 ?_
      refine x_aloadn C dX9_numberOf_15 rfl ?_
      refine x_getR C fl_X9_9 cl_9 (2) nC1 kC1 fC1_0 dX9_numberOf_16 ?_
      refine x_iload C dX9_numberOf_19 (x := x4) rfl ?_
      refine x_iald C nC2 kC2 dX9_numberOf_21 ?_
      refine x_iadd C dX9_numberOf_22 ?_
      refine x_bipush C dX9_numberOf_23 (v := (48 : Int32)) (by decide) ?_
      refine x_isub C dX9_numberOf_25 ?_
      refine x_lti (fun v1 => ?_)
      refine x_istoren C dX9_numberOf_26 (L' := [some (.ref ((wC b).2.2.2 + 1)), none, some (.int p2), some (.int v1), some (.int x4)]) (ltb rfl) rfl ?_
      refine x_iinc C dX9_numberOf_27 (v := (x4 + (1 : Int32))) rfl rfl (L' := [some (.ref ((wC b).2.2.2 + 1)), none, some (.int p2), some (.int v1), some (.int (x4 + (1 : Int32)))]) rfl ?_
      refine x_goto C dX9_numberOf_30 (tgt := 5) (by decide) ?_
      exact x_wk (L' := [some (.ref ((wC b).2.2.2 + 1)), none, some (.int p2), some (.int v1), some (.int (x4 + (1 : Int32)))]) (And.intro rfl (And.intro rfl (And.intro rfl (And.intro rfl trivial)))) (ih (v1) ((x4 + (1 : Int32))))
set_option maxHeartbeats 4000000 in
set_option maxRecDepth 20000 in
theorem c_tp_numberOf {l : Launch} {g : GG} {b : Nat} (p1 : Int32) (p2 : Int32) (M : Mem) : CT l g (wC b) (rmd 1) yX9_numberOf cX9_numberOf 5 (some .int) [.ref ((wC b).2.2.2 + 1), .int p1, .int p2] M (finI M) (tp_numberOf p1 p2 M) := by
  refine CT.of rfl (Nat.le_of_ble_eq_true rfl) (catc rfl (catc rfl (catc rfl cat0))) (fun z C => ?_)
  have C : Cx z l g (wC b) (rmd 1) cX9_numberOf 5 RX9 (some .int) := C
  refine x_wk (L' := [some (.ref ((wC b).2.2.2 + 1)), some (.int p1), some (.int p2), none, none]) (And.intro rfl (And.intro rfl (And.intro rfl trivial))) ?_
  rw [tp_numberOf]
  refine x_iconst C dX9_numberOf_0 (v := (0 : Int32)) (by decide) ?_
  refine x_istoren C dX9_numberOf_1 (L' := [some (.ref ((wC b).2.2.2 + 1)), some (.int p1), some (.int p2), some (.int (0 : Int32)), none]) (ltb rfl) rfl ?_
  refine x_iloadn C dX9_numberOf_2 (x := p1) rfl ?_
  refine x_istore C dX9_numberOf_3 (L' := [some (.ref ((wC b).2.2.2 + 1)), some (.int p1), some (.int p2), some (.int (0 : Int32)), some (.int p1)]) (ltb rfl) rfl ?_
  refine x_wk (L' := [some (.ref ((wC b).2.2.2 + 1)), none, some (.int p2), some (.int (0 : Int32)), some (.int p1)]) (And.intro rfl (And.intro rfl (And.intro rfl (And.intro rfl trivial)))) (w_tp_numberOf_L5 C p1 p2  M (fun v3_1 => ?_) FU ((0 : Int32)) (p1) )
  refine x_iloadn C dX9_numberOf_33 (x := v3_1) rfl ?_
  exact x_iret C dX9_numberOf_34 rfl
def tp_isText_L15 (p1 : Nat) (p2 : Int32) (p3 : Int32) (M : Mem) (K : Option Int32) : Nat → Int32 → Option Int32
  | 0, _ => none
  | fu + 1, x4 => (if x4 < p3 then chk (inb (x4 - p2) (slen p1)) (chk (inb x4 400) ((if (schr p1 (x4 - p2).toNatClampNeg) = (M 2 x4.toNatClampNeg) then tp_isText_L15 p1 p2 p3 M K fu ((x4 + (1 : Int32))) else some ((0 : Int32))))) else K)
def tp_isText (p1 : Nat) (p2 : Int32) (p3 : Int32) (M : Mem) : Option Int32 := (if (Int32.ofNat (slen p1)) = (p3 - p2) then tp_isText_L15 p1 p2 p3 M (some ((1 : Int32))) FU (p2) else some ((0 : Int32)))
set_option maxHeartbeats 4000000 in
set_option maxRecDepth 20000 in
theorem w_tp_isText_L15 {z : ZT} {l : Launch} {g : GG} {b : Nat} {p1 : Nat} (C : Cx z l g (wC b) (rmd 6) cX9_isText 5 RX9 (some .boolean)) (hs : p1 < 58) (p2 : Int32) (p3 : Int32) (M : Mem) {K : Option Int32} (hK : XG z g (wC b) 5 (ZQ z g (wC b) (finI M)) 0 0 47 [none, none, none, none, none] [] M (K )) : ∀ (fu : Nat) (x4 : Int32), XG z g (wC b) 5 (ZQ z g (wC b) (finI M)) 0 0 15 [some (.ref ((wC b).2.2.2 + 1)), some (.ref (g.2.2.2.1 p1)), some (.int p2), some (.int p3), some (.int x4)] [] M (tp_isText_L15 p1 p2 p3 M K fu x4) := by
  intro fu
  induction fu with
  | zero => intro x4; exact x_none
  | succ fu ih =>
    intro x4
    rw [tp_isText_L15]
    refine x_iload C dX9_isText_15 (x := x4) rfl ?_
    refine x_iloadn C dX9_isText_17 (x := p3) rfl ?_
    refine x_icmpge C dX9_isText_18 (tgt := 47) (by decide) (fun _h => ?_) (fun _h => ?_)
    · exact x_wk (L' := [none, none, none, none, none]) (trivial) (hK )
    · refine x_aloadn C dX9_isText_21 rfl ?_
      refine x_iload C dX9_isText_22 (x := x4) rfl ?_
      refine x_iloadn C dX9_isText_24 (x := p2) rfl ?_
      refine x_isub C dX9_isText_25 ?_
      refine x_sch C hs lk_X9_84  (Nat.le_of_ble_eq_true rfl) (rmok_d (by decide) (by decide)) ⟨Nat.zero_le _, Nat.zero_le _⟩ dX9_isText_26 ?_
      refine x_aloadn C dX9_isText_29 rfl ?_
      refine x_getR C fl_X9_9 cl_9 (2) nC1 kC1 fC1_0 dX9_isText_30 ?_
      refine x_iload C dX9_isText_33 (x := x4) rfl ?_
      refine x_iald C nC2 kC2 dX9_isText_35 ?_
      refine x_icmpeq C dX9_isText_36 (tgt := 41) (by decide) (fun _h => ?_) (fun _h => ?_)
      · refine x_iinc C dX9_isText_41 (v := (x4 + (1 : Int32))) rfl rfl (L' := [some (.ref ((wC b).2.2.2 + 1)), some (.ref (g.2.2.2.1 p1)), some (.int p2), some (.int p3), some (.int (x4 + (1 : Int32)))]) rfl ?_
        refine x_goto C dX9_isText_44 (tgt := 15) (by decide) ?_
        exact x_wk (L' := [some (.ref ((wC b).2.2.2 + 1)), some (.ref (g.2.2.2.1 p1)), some (.int p2), some (.int p3), some (.int (x4 + (1 : Int32)))]) (And.intro rfl (And.intro rfl (And.intro rfl (And.intro rfl (And.intro rfl trivial))))) (ih ((x4 + (1 : Int32))))
      · refine x_iconst C dX9_isText_39 (v := (0 : Int32)) (by decide) ?_
        exact x_zret C dX9_isText_40 rfl rfl
set_option maxHeartbeats 4000000 in
set_option maxRecDepth 20000 in
theorem c_tp_isText {l : Launch} {g : GG} {b : Nat} {p1 : Nat} (hs : p1 < 58) (p2 : Int32) (p3 : Int32) (M : Mem) : CT l g (wC b) (rmd 6) yX9_isText cX9_isText 5 (some .boolean) [.ref ((wC b).2.2.2 + 1), .ref (g.2.2.2.1 p1), .int p2, .int p3] M (finI M) (tp_isText p1 p2 p3 M) := by
  refine CT.of rfl (Nat.le_of_ble_eq_true rfl) (catc rfl (catc rfl (catc rfl (catc rfl cat0)))) (fun z C => ?_)
  have C : Cx z l g (wC b) (rmd 6) cX9_isText 5 RX9 (some .boolean) := C
  refine x_wk (L' := [some (.ref ((wC b).2.2.2 + 1)), some (.ref (g.2.2.2.1 p1)), some (.int p2), some (.int p3), none]) (And.intro rfl (And.intro rfl (And.intro rfl (And.intro rfl trivial)))) ?_
  rw [tp_isText]
  refine x_aloadn C dX9_isText_0 rfl ?_
  refine x_slen C hs lk_X9_78  (Nat.le_of_ble_eq_true rfl) (rmok_d (by decide) (by decide)) ⟨Nat.zero_le _, Nat.zero_le _⟩ dX9_isText_1 ?_
  refine x_iloadn C dX9_isText_4 (x := p3) rfl ?_
  refine x_iloadn C dX9_isText_5 (x := p2) rfl ?_
  refine x_isub C dX9_isText_6 ?_
  refine x_icmpeq C dX9_isText_7 (tgt := 12) (by decide) (fun _h => ?_) (fun _h => ?_)
  · refine x_iloadn C dX9_isText_12 (x := p2) rfl ?_
    refine x_istore C dX9_isText_13 (L' := [some (.ref ((wC b).2.2.2 + 1)), some (.ref (g.2.2.2.1 p1)), some (.int p2), some (.int p3), some (.int p2)]) (ltb rfl) rfl ?_
    refine x_wk (L' := [some (.ref ((wC b).2.2.2 + 1)), some (.ref (g.2.2.2.1 p1)), some (.int p2), some (.int p3), some (.int p2)]) (And.intro rfl (And.intro rfl (And.intro rfl (And.intro rfl (And.intro rfl trivial))))) (w_tp_isText_L15 C hs p2 p3  M ?_ FU (p2) )
    refine x_iconst C dX9_isText_47 (v := (1 : Int32)) (by decide) ?_
    exact x_zret C dX9_isText_48 rfl rfl
  · refine x_iconst C dX9_isText_10 (v := (0 : Int32)) (by decide) ?_
    exact x_zret C dX9_isText_11 rfl rfl
def tp_nameOf_L2 (p1 : Int32) (p2 : Int32) (M : Mem) (K : Option Int32) : Nat → Int32 → Option Int32
  | 0, _ => none
  | fu + 1, x3 => (if x3 < (29 : Int32) then chk (inb x3 29) ((tp_isText (stx x3.toNatClampNeg) (p1) (p2) M).bind fun v1 => (if v1 = 0 then tp_nameOf_L2 p1 p2 M K fu ((x3 + (1 : Int32))) else chk (inb x3 29) (some ((x3 + 1))))) else K)
def tp_nameOf (p1 : Int32) (p2 : Int32) (M : Mem) : Option Int32 := tp_nameOf_L2 p1 p2 M (some ((3 : Int32))) FU ((0 : Int32))
set_option maxHeartbeats 4000000 in
set_option maxRecDepth 20000 in
theorem w_tp_nameOf_L2 {z : ZT} {l : Launch} {g : GG} {b : Nat} (C : Cx z l g (wC b) (rmd 7) cX9_nameOf 4 RX9 (some (.object "RopeFerry$Thing"))) (p1 : Int32) (p2 : Int32) (M : Mem) {K : Option Int32} (hK : XG z g (wC b) 4 (ZQ z g (wC b) (finQ g M)) 0 0 39 [none, none, none, none] [] M (K )) : ∀ (fu : Nat) (x3 : Int32), XG z g (wC b) 4 (ZQ z g (wC b) (finQ g M)) 0 0 2 [some (.ref ((wC b).2.2.2 + 1)), some (.int p1), some (.int p2), some (.int x3)] [] M (tp_nameOf_L2 p1 p2 M K fu x3) := by
  intro fu
  induction fu with
  | zero => intro x3; exact x_none
  | succ fu ih =>
    intro x3
    rw [tp_nameOf_L2]
    refine x_iloadn C dX9_nameOf_2 (x := x3) rfl ?_
    refine x_gsA C fx_X9_67 dX9_nameOf_3 ?_
    refine x_lenA C dX9_nameOf_6 ?_
    refine x_icmpge C dX9_nameOf_7 (tgt := 39) (by decide) (fun _h => ?_) (fun _h => ?_)
    · exact x_wk (L' := [none, none, none, none]) (trivial) (hK )
    · refine x_aloadn C dX9_nameOf_10 rfl ?_
      refine x_gsA C fx_X9_67 dX9_nameOf_11 ?_
      refine x_iloadn C dX9_nameOf_14 (x := x3) rfl ?_
      refine x_aldA C dX9_nameOf_15 aldA_ix (fun hi9 => ?_)
      have hj9 := aldA_lt hi9
      have hx9 := aldA_ix hi9
      refine x_getT C hj9 hx9 fx_X9_70 dX9_nameOf_16 ?_
      refine x_iloadn C dX9_nameOf_19 (x := p1) rfl ?_
      refine x_iloadn C dX9_nameOf_20 (x := p2) rfl ?_
      refine x_Vi (st := []) C (c_tp_isText (stx_lt _) (p1) (p2) M) lk_X9_74 nC1 kC1 ⟨_, _, rfl⟩ rfl rfl (Nat.le_of_ble_eq_true rfl) (rmok_d (by decide) (by decide)) ⟨Nat.zero_le _, Nat.zero_le _⟩ dX9_nameOf_21 (fun v1 => ?_)
      refine x_ifeq C dX9_nameOf_24 (tgt := 33) (by decide) (fun _h => ?_) (fun _h => ?_)
      · refine x_iinc C dX9_nameOf_33 (v := (x3 + (1 : Int32))) rfl rfl (L' := [some (.ref ((wC b).2.2.2 + 1)), some (.int p1), some (.int p2), some (.int (x3 + (1 : Int32)))]) rfl ?_
        refine x_goto C dX9_nameOf_36 (tgt := 2) (by decide) ?_
        exact x_wk (L' := [some (.ref ((wC b).2.2.2 + 1)), some (.int p1), some (.int p2), some (.int (x3 + (1 : Int32)))]) (And.intro rfl (And.intro rfl (And.intro rfl (And.intro rfl trivial)))) (ih ((x3 + (1 : Int32))))
      · refine x_gsA C fx_X9_67 dX9_nameOf_27 ?_
        refine x_iloadn C dX9_nameOf_30 (x := x3) rfl ?_
        refine x_aldA C dX9_nameOf_31 aldA_ix (fun hi9 => ?_)
        have hj9 := aldA_lt hi9
        have hx9 := aldA_ix hi9
        exact x_qret C dX9_nameOf_32 rfl
set_option maxHeartbeats 4000000 in
set_option maxRecDepth 20000 in
theorem c_tp_nameOf {l : Launch} {g : GG} {b : Nat} (p1 : Int32) (p2 : Int32) (M : Mem) : CT l g (wC b) (rmd 7) yX9_nameOf cX9_nameOf 4 (some (.object "RopeFerry$Thing")) [.ref ((wC b).2.2.2 + 1), .int p1, .int p2] M (finQ g M) (tp_nameOf p1 p2 M) := by
  refine CT.of rfl (Nat.le_of_ble_eq_true rfl) (catc rfl (catc rfl (catc rfl cat0))) (fun z C => ?_)
  have C : Cx z l g (wC b) (rmd 7) cX9_nameOf 4 RX9 (some (.object "RopeFerry$Thing")) := C
  refine x_wk (L' := [some (.ref ((wC b).2.2.2 + 1)), some (.int p1), some (.int p2), none]) (And.intro rfl (And.intro rfl (And.intro rfl trivial))) ?_
  rw [tp_nameOf]
  refine x_iconst C dX9_nameOf_0 (v := (0 : Int32)) (by decide) ?_
  refine x_istoren C dX9_nameOf_1 (L' := [some (.ref ((wC b).2.2.2 + 1)), some (.int p1), some (.int p2), some (.int (0 : Int32))]) (ltb rfl) rfl ?_
  refine x_wk (L' := [some (.ref ((wC b).2.2.2 + 1)), some (.int p1), some (.int p2), some (.int (0 : Int32))]) (And.intro rfl (And.intro rfl (And.intro rfl (And.intro rfl trivial)))) (w_tp_nameOf_L2 C p1 p2  M ?_ FU ((0 : Int32)) )
  refine x_gsT C 2 (3 : Int32) ft_X9_56 (by decide) dX9_nameOf_39 ?_
  exact x_qret C dX9_nameOf_42 rfl
def tp_putThing_J67 (p1 : Int32) (p2 : Int32) (x3 : Int32) (s0 : Int32) (s1 : Int32) (M : Mem) : Option Mem := chk (inb s1 401) (lt1 (wr M 3 s1.toNatClampNeg s0) fun M6 => (if x3 = 0 then chk (inb (M6 1 5) 401) (lt1 (wr M6 5 (M6 1 5).toNatClampNeg (0 : Int32)) fun M7 => lt1 (wr M7 1 5 ((M7 1 5) + (1 : Int32))) fun M8 => some M8) else (tp_numberOf (p1) (p2) M6).bind fun v9 => chk (inb (M6 1 5) 401) (lt1 (wr M6 5 (M6 1 5).toNatClampNeg v9) fun M10 => lt1 (wr M10 1 5 ((M10 1 5) + (1 : Int32))) fun M11 => some M11)))
def tp_putThing_J45 (p1 : Int32) (p2 : Int32) (s0 : Int32) (M : Mem) : Option Mem := (if s0 = 0 then tp_putThing_J67 p1 p2 (s0) ((3 : Int32)) ((M 1 5)) M else tp_putThing_J67 p1 p2 (s0) ((2 : Int32)) ((M 1 5)) M)
def tp_putThing (p1 : Int32) (p2 : Int32) (M : Mem) : Option Mem := (if (M 1 5) < (400 : Int32) then chk (inb (M 1 5) 401) (lt1 (wr M 4 (M 1 5).toNatClampNeg p1) fun M1 => chk (inb p1 400) ((tp_isDigit ((M1 2 p1.toNatClampNeg)) M1).bind fun v2 => (if v2 = 0 then (tp_nameOf (p1) (p2) M1).bind fun v3 => chk (inb (M1 1 5) 401) (lt1 (wr M1 3 (M1 1 5).toNatClampNeg v3) fun M4 => lt1 (wr M4 1 5 ((M4 1 5) + (1 : Int32))) fun M5 => some M5) else (if (3 : Int32) < (p2 - p1) then tp_putThing_J45 p1 p2 ((0 : Int32)) M1 else tp_putThing_J45 p1 p2 ((1 : Int32)) M1)))) else some M)
set_option maxHeartbeats 4000000 in
set_option maxRecDepth 20000 in
theorem w_tp_putThing_J67 {z : ZT} {l : Launch} {g : GG} {b : Nat} (C : Cx z l g (wC b) (rmd 8) cX9_putThing 4 RX9 none) (p1 : Int32) (p2 : Int32)  (x3 : Int32) (s0 : Int32) (s1 : Int32) (M : Mem) : XG z g (wC b) 4 (ZQ z g (wC b) finV) 0 0 67 [some (.ref ((wC b).2.2.2 + 1)), some (.int p1), some (.int p2), some (.int x3)] [va_rf (ths g s0), .int s1, .ref ((wC b).2.2.2 + 3)] M (tp_putThing_J67 p1 p2 x3 s0 s1 M) := by
  rw [tp_putThing_J67]
  refine x_qast C nC3 kC3 dX9_putThing_67 ?_
  refine x_ltM (fun M6 => ?_)
  refine x_aloadn C dX9_putThing_68 rfl ?_
  refine x_getR C fl_X9_28 cl_9 (5) nC1 kC1 fC1_4 dX9_putThing_69 ?_
  refine x_aloadn C dX9_putThing_72 rfl ?_
  refine x_getI C fl_X9_31 cl_9 nC1 kC1 fC1_5 dX9_putThing_73 ?_
  refine x_iloadn C dX9_putThing_76 (x := x3) rfl ?_
  refine x_ifeq C dX9_putThing_77 (tgt := 89) (by decide) (fun _h => ?_) (fun _h => ?_)
  · refine x_iconst C dX9_putThing_89 (v := (0 : Int32)) (by decide) ?_
    refine x_iast C nC5 kC5 dX9_putThing_90 ?_
    refine x_ltM (fun M7 => ?_)
    refine x_goto C dX9_putThing_91 (tgt := 109) (by decide) ?_
    refine x_aloadn C dX9_putThing_109 rfl ?_
    refine x_dup C dX9_putThing_110 rfl ?_
    refine x_getI C fl_X9_31 cl_9 nC1 kC1 fC1_5 dX9_putThing_111 ?_
    refine x_iconst C dX9_putThing_114 (v := (1 : Int32)) (by decide) ?_
    refine x_iadd C dX9_putThing_115 ?_
    refine x_putI C fl_X9_31 cl_9 fint_9_5 nC1 kC1 fC1_5 dX9_putThing_116 ?_
    refine x_ltM (fun M8 => ?_)
    exact x_vret C dX9_putThing_119 rfl
  · refine x_aloadn C dX9_putThing_80 rfl ?_
    refine x_iloadn C dX9_putThing_81 (x := p1) rfl ?_
    refine x_iloadn C dX9_putThing_82 (x := p2) rfl ?_
    refine x_Vi (st := [.int (M6 1 5), .ref ((wC b).2.2.2 + 5)]) C (c_tp_numberOf  (p1) (p2) M6) lk_X9_59 nC1 kC1 ⟨_, _, rfl⟩ rfl rfl (Nat.le_of_ble_eq_true rfl) (rmok_d (by decide) (by decide)) ⟨Nat.zero_le _, Nat.zero_le _⟩ dX9_putThing_83 (fun v9 => ?_)
    refine x_goto C dX9_putThing_86 (tgt := 90) (by decide) ?_
    refine x_iast C nC5 kC5 dX9_putThing_90 ?_
    refine x_ltM (fun M10 => ?_)
    refine x_goto C dX9_putThing_91 (tgt := 109) (by decide) ?_
    refine x_aloadn C dX9_putThing_109 rfl ?_
    refine x_dup C dX9_putThing_110 rfl ?_
    refine x_getI C fl_X9_31 cl_9 nC1 kC1 fC1_5 dX9_putThing_111 ?_
    refine x_iconst C dX9_putThing_114 (v := (1 : Int32)) (by decide) ?_
    refine x_iadd C dX9_putThing_115 ?_
    refine x_putI C fl_X9_31 cl_9 fint_9_5 nC1 kC1 fC1_5 dX9_putThing_116 ?_
    refine x_ltM (fun M11 => ?_)
    exact x_vret C dX9_putThing_119 rfl
set_option maxHeartbeats 4000000 in
set_option maxRecDepth 20000 in
theorem w_tp_putThing_J45 {z : ZT} {l : Launch} {g : GG} {b : Nat} (C : Cx z l g (wC b) (rmd 8) cX9_putThing 4 RX9 none) (p1 : Int32) (p2 : Int32)  (s0 : Int32) (M : Mem) : XG z g (wC b) 4 (ZQ z g (wC b) finV) 0 0 45 [some (.ref ((wC b).2.2.2 + 1)), some (.int p1), some (.int p2), none] [.int s0] M (tp_putThing_J45 p1 p2 s0 M) := by
  rw [tp_putThing_J45]
  refine x_istoren C dX9_putThing_45 (L' := [some (.ref ((wC b).2.2.2 + 1)), some (.int p1), some (.int p2), some (.int s0)]) (ltb rfl) rfl ?_
  refine x_aloadn C dX9_putThing_46 rfl ?_
  refine x_getR C fl_X9_21 cl_9 (3) nC1 kC1 fC1_2 dX9_putThing_47 ?_
  refine x_aloadn C dX9_putThing_50 rfl ?_
  refine x_getI C fl_X9_31 cl_9 nC1 kC1 fC1_5 dX9_putThing_51 ?_
  refine x_iloadn C dX9_putThing_54 (x := s0) rfl ?_
  refine x_ifeq C dX9_putThing_55 (tgt := 64) (by decide) (fun _h => ?_) (fun _h => ?_)
  · refine x_gsT C 2 (3 : Int32) ft_X9_56 (by decide) dX9_putThing_64 ?_
    exact x_wk (L' := [some (.ref ((wC b).2.2.2 + 1)), some (.int p1), some (.int p2), some (.int s0)]) (And.intro rfl (And.intro rfl (And.intro rfl (And.intro rfl trivial)))) (w_tp_putThing_J67 C p1 p2  (s0) ((3 : Int32)) ((M 1 5)) M)
  · refine x_gsT C 1 (2 : Int32) ft_X9_53 (by decide) dX9_putThing_58 ?_
    refine x_goto C dX9_putThing_61 (tgt := 67) (by decide) ?_
    exact x_wk (L' := [some (.ref ((wC b).2.2.2 + 1)), some (.int p1), some (.int p2), some (.int s0)]) (And.intro rfl (And.intro rfl (And.intro rfl (And.intro rfl trivial)))) (w_tp_putThing_J67 C p1 p2  (s0) ((2 : Int32)) ((M 1 5)) M)
set_option maxHeartbeats 4000000 in
set_option maxRecDepth 20000 in
theorem c_tp_putThing {l : Launch} {g : GG} {b : Nat} (p1 : Int32) (p2 : Int32) (M : Mem) : CT l g (wC b) (rmd 8) yX9_putThing cX9_putThing 4 none [.ref ((wC b).2.2.2 + 1), .int p1, .int p2] M finV (tp_putThing p1 p2 M) := by
  refine CT.of rfl (Nat.le_of_ble_eq_true rfl) (catc rfl (catc rfl (catc rfl cat0))) (fun z C => ?_)
  have C : Cx z l g (wC b) (rmd 8) cX9_putThing 4 RX9 none := C
  refine x_wk (L' := [some (.ref ((wC b).2.2.2 + 1)), some (.int p1), some (.int p2), none]) (And.intro rfl (And.intro rfl (And.intro rfl trivial))) ?_
  rw [tp_putThing]
  refine x_aloadn C dX9_putThing_0 rfl ?_
  refine x_getI C fl_X9_31 cl_9 nC1 kC1 fC1_5 dX9_putThing_1 ?_
  refine x_sipush C dX9_putThing_4 (v := (400 : Int32)) (by decide) ?_
  refine x_icmplt C dX9_putThing_7 (tgt := 11) (by decide) (fun _h => ?_) (fun _h => ?_)
  · refine x_aloadn C dX9_putThing_11 rfl ?_
    refine x_getR C fl_X9_25 cl_9 (4) nC1 kC1 fC1_3 dX9_putThing_12 ?_
    refine x_aloadn C dX9_putThing_15 rfl ?_
    refine x_getI C fl_X9_31 cl_9 nC1 kC1 fC1_5 dX9_putThing_16 ?_
    refine x_iloadn C dX9_putThing_19 (x := p1) rfl ?_
    refine x_iast C nC4 kC4 dX9_putThing_20 ?_
    refine x_ltM (fun M1 => ?_)
    refine x_aloadn C dX9_putThing_21 rfl ?_
    refine x_getR C fl_X9_9 cl_9 (2) nC1 kC1 fC1_0 dX9_putThing_22 ?_
    refine x_iloadn C dX9_putThing_25 (x := p1) rfl ?_
    refine x_iald C nC2 kC2 dX9_putThing_26 ?_
    refine x_Si (st := []) C (c_tp_isDigit  ((M1 2 p1.toNatClampNeg)) M1) lk_X9_49 rfl rfl (Nat.le_of_ble_eq_true rfl) (rmok_d (by decide) (by decide)) ⟨Nat.zero_le _, Nat.zero_le _⟩ dX9_putThing_27 (fun v2 => ?_)
    refine x_ifeq C dX9_putThing_30 (tgt := 94) (by decide) (fun _h => ?_) (fun _h => ?_)
    · refine x_aloadn C dX9_putThing_94 rfl ?_
      refine x_getR C fl_X9_21 cl_9 (3) nC1 kC1 fC1_2 dX9_putThing_95 ?_
      refine x_aloadn C dX9_putThing_98 rfl ?_
      refine x_getI C fl_X9_31 cl_9 nC1 kC1 fC1_5 dX9_putThing_99 ?_
      refine x_aloadn C dX9_putThing_102 rfl ?_
      refine x_iloadn C dX9_putThing_103 (x := p1) rfl ?_
      refine x_iloadn C dX9_putThing_104 (x := p2) rfl ?_
      refine x_Vq (st := [.int (M1 1 5), .ref ((wC b).2.2.2 + 3)]) C (c_tp_nameOf  (p1) (p2) M1) lk_X9_63 nC1 kC1 ⟨_, _, rfl⟩ rfl rfl (Nat.le_of_ble_eq_true rfl) (rmok_d (by decide) (by decide)) ⟨Nat.zero_le _, Nat.zero_le _⟩ dX9_putThing_105 (fun v3 => ?_)
      refine x_qast C nC3 kC3 dX9_putThing_108 ?_
      refine x_ltM (fun M4 => ?_)
      refine x_aloadn C dX9_putThing_109 rfl ?_
      refine x_dup C dX9_putThing_110 rfl ?_
      refine x_getI C fl_X9_31 cl_9 nC1 kC1 fC1_5 dX9_putThing_111 ?_
      refine x_iconst C dX9_putThing_114 (v := (1 : Int32)) (by decide) ?_
      refine x_iadd C dX9_putThing_115 ?_
      refine x_putI C fl_X9_31 cl_9 fint_9_5 nC1 kC1 fC1_5 dX9_putThing_116 ?_
      refine x_ltM (fun M5 => ?_)
      exact x_vret C dX9_putThing_119 rfl
    · refine x_iloadn C dX9_putThing_33 (x := p2) rfl ?_
      refine x_iloadn C dX9_putThing_34 (x := p1) rfl ?_
      refine x_isub C dX9_putThing_35 ?_
      refine x_iconst C dX9_putThing_36 (v := (3 : Int32)) (by decide) ?_
      refine x_icmpgt C dX9_putThing_37 (tgt := 44) (by decide) (fun _h => ?_) (fun _h => ?_)
      · refine x_iconst C dX9_putThing_44 (v := (0 : Int32)) (by decide) ?_
        exact x_wk (L' := [some (.ref ((wC b).2.2.2 + 1)), some (.int p1), some (.int p2), none]) (And.intro rfl (And.intro rfl (And.intro rfl trivial))) (w_tp_putThing_J45 C p1 p2   ((0 : Int32)) M1)
      · refine x_iconst C dX9_putThing_40 (v := (1 : Int32)) (by decide) ?_
        refine x_goto C dX9_putThing_41 (tgt := 45) (by decide) ?_
        exact x_wk (L' := [some (.ref ((wC b).2.2.2 + 1)), some (.int p1), some (.int p2), none]) (And.intro rfl (And.intro rfl (And.intro rfl trivial))) (w_tp_putThing_J45 C p1 p2   ((1 : Int32)) M1)
  · exact x_vret C dX9_putThing_10 rfl
def tp_split_L24 (y1 : Int32) (M : Mem) (K : Int32 → Option Mem) : Nat → Int32 → Option Mem
  | 0, _ => none
  | fu + 1, x2 => (if x2 < (M 1 1) then chk (inb y1 400) (chk (inb x2 400) ((tp_goOn ((M 2 y1.toNatClampNeg)) ((M 2 x2.toNatClampNeg)) M).bind fun v3 => (if v3 = 0 then K (x2) else tp_split_L24 y1 M K fu ((x2 + (1 : Int32)))))) else K (x2))
def tp_split_J56 (rec : Int32 → Mem → Option Mem) (K : Mem → Option Mem) (x1 : Int32) (x2 : Int32) (M : Mem) : Option Mem := chk (inb x1 400) ((if (M 2 x1.toNatClampNeg) = (32 : Int32) then rec (x2) (M) else (tp_putThing (x1) (x2) M).bind fun M5 => rec (x2) (M5)))
def tp_split_L12  (K : Mem → Option Mem) : Nat → Int32 → Mem → Option Mem
  | 0, _, _ => none
  | fu + 1, x1, M => (if x1 < (M 1 1) then tp_split_L24 (x1) M (fun v2_3 => tp_split_J56 (fun a1 aM => tp_split_L12 K fu a1 aM) K (x1) (v2_3) M) FU ((x1 + (1 : Int32))) else K (M))
def tp_split (M : Mem) : Option Mem := lt1 (wr M 1 5 (0 : Int32)) fun M1 => lt1 (wr M1 1 6 (0 : Int32)) fun M2 => tp_split_L12 (fun M7 => chk (inb (M7 1 5) 401) (lt1 (wr M7 3 (M7 1 5).toNatClampNeg (1 : Int32)) fun M8 => chk (inb (M8 1 5) 401) (lt1 (wr M8 4 (M8 1 5).toNatClampNeg (M8 1 1)) fun M9 => some M9))) FU ((0 : Int32)) M2
set_option maxHeartbeats 4000000 in
set_option maxRecDepth 20000 in
theorem w_tp_split_L24 {z : ZT} {l : Launch} {g : GG} {b : Nat} (C : Cx z l g (wC b) (rmd 9) cX9_split 3 RX9 none) (y1 : Int32) (M : Mem) {K : Int32 → Option Mem} (hK : ∀ (x2 : Int32) , XG z g (wC b) 3 (ZQ z g (wC b) finV) 0 0 56 [some (.ref ((wC b).2.2.2 + 1)), some (.int y1), some (.int x2)] [] M (K x2)) : ∀ (fu : Nat) (x2 : Int32), XG z g (wC b) 3 (ZQ z g (wC b) finV) 0 0 24 [some (.ref ((wC b).2.2.2 + 1)), some (.int y1), some (.int x2)] [] M (tp_split_L24 y1 M K fu x2) := by
  intro fu
  induction fu with
  | zero => intro x2; exact x_none
  | succ fu ih =>
    intro x2
    rw [tp_split_L24]
    refine x_iloadn C dX9_split_24 (x := x2) rfl ?_
    refine x_aloadn C dX9_split_25 rfl ?_
    refine x_getI C fl_X9_15 cl_9 nC1 kC1 fC1_1 dX9_split_26 ?_
    refine x_icmpge C dX9_split_29 (tgt := 56) (by decide) (fun _h => ?_) (fun _h => ?_)
    · exact x_wk (L' := [some (.ref ((wC b).2.2.2 + 1)), some (.int y1), some (.int x2)]) (And.intro rfl (And.intro rfl (And.intro rfl trivial))) (hK (x2))
    · refine x_aloadn C dX9_split_32 rfl ?_
      refine x_getR C fl_X9_9 cl_9 (2) nC1 kC1 fC1_0 dX9_split_33 ?_
      refine x_iloadn C dX9_split_36 (x := y1) rfl ?_
      refine x_iald C nC2 kC2 dX9_split_37 ?_
      refine x_aloadn C dX9_split_38 rfl ?_
      refine x_getR C fl_X9_9 cl_9 (2) nC1 kC1 fC1_0 dX9_split_39 ?_
      refine x_iloadn C dX9_split_42 (x := x2) rfl ?_
      refine x_iald C nC2 kC2 dX9_split_43 ?_
      refine x_Si (st := []) C (c_tp_goOn  ((M 2 y1.toNatClampNeg)) ((M 2 x2.toNatClampNeg)) M) lk_X9_37 rfl rfl (Nat.le_of_ble_eq_true rfl) (rmok_d (by decide) (by decide)) ⟨Nat.zero_le _, Nat.zero_le _⟩ dX9_split_44 (fun v3 => ?_)
      refine x_ifeq C dX9_split_47 (tgt := 56) (by decide) (fun _h => ?_) (fun _h => ?_)
      · exact x_wk (L' := [some (.ref ((wC b).2.2.2 + 1)), some (.int y1), some (.int x2)]) (And.intro rfl (And.intro rfl (And.intro rfl trivial))) (hK (x2))
      · refine x_iinc C dX9_split_50 (v := (x2 + (1 : Int32))) rfl rfl (L' := [some (.ref ((wC b).2.2.2 + 1)), some (.int y1), some (.int (x2 + (1 : Int32)))]) rfl ?_
        refine x_goto C dX9_split_53 (tgt := 24) (by decide) ?_
        exact x_wk (L' := [some (.ref ((wC b).2.2.2 + 1)), some (.int y1), some (.int (x2 + (1 : Int32)))]) (And.intro rfl (And.intro rfl (And.intro rfl trivial))) (ih ((x2 + (1 : Int32))))
set_option maxHeartbeats 4000000 in
set_option maxRecDepth 20000 in
theorem w_tp_split_J56 {z : ZT} {l : Launch} {g : GG} {b : Nat} (C : Cx z l g (wC b) (rmd 9) cX9_split 3 RX9 none)   {rec : Int32 → Mem → Option Mem} (hrec : ∀ (u1 : Int32) (M : Mem) , XG z g (wC b) 3 (ZQ z g (wC b) finV) 0 0 12 [some (.ref ((wC b).2.2.2 + 1)), some (.int u1), none] [] M (rec u1 M)) {K : Mem → Option Mem} (hK : ∀ (M : Mem) , XG z g (wC b) 3 (ZQ z g (wC b) finV) 0 0 78 [some (.ref ((wC b).2.2.2 + 1)), none, none] [] M (K  M)) (x1 : Int32) (x2 : Int32) (M : Mem) : XG z g (wC b) 3 (ZQ z g (wC b) finV) 0 0 56 [some (.ref ((wC b).2.2.2 + 1)), some (.int x1), some (.int x2)] [] M (tp_split_J56 rec K x1 x2 M) := by
  rw [tp_split_J56]
  refine x_aloadn C dX9_split_56 rfl ?_
  refine x_getR C fl_X9_9 cl_9 (2) nC1 kC1 fC1_0 dX9_split_57 ?_
  refine x_iloadn C dX9_split_60 (x := x1) rfl ?_
  refine x_iald C nC2 kC2 dX9_split_61 ?_
  refine x_bipush C dX9_split_62 (v := (32 : Int32)) (by decide) ?_
  refine x_icmpeq C dX9_split_64 (tgt := 73) (by decide) (fun _h => ?_) (fun _h => ?_)
  · refine x_iloadn C dX9_split_73 (x := x2) rfl ?_
    refine x_istoren C dX9_split_74 (L' := [some (.ref ((wC b).2.2.2 + 1)), some (.int x2), some (.int x2)]) (ltb rfl) rfl ?_
    refine x_goto C dX9_split_75 (tgt := 12) (by decide) ?_
    exact x_wk (L' := [some (.ref ((wC b).2.2.2 + 1)), some (.int x2), none]) (And.intro rfl (And.intro rfl trivial)) (hrec (x2) (M))
  · refine x_aloadn C dX9_split_67 rfl ?_
    refine x_iloadn C dX9_split_68 (x := x1) rfl ?_
    refine x_iloadn C dX9_split_69 (x := x2) rfl ?_
    refine x_Vv (st := []) C (c_tp_putThing  (x1) (x2) M) lk_X9_41 nC1 kC1 ⟨_, _, rfl⟩ rfl rfl (Nat.le_of_ble_eq_true rfl) (rmok_d (by decide) (by decide)) ⟨Nat.zero_le _, Nat.zero_le _⟩ dX9_split_70 (fun M5 => ?_)
    refine x_iloadn C dX9_split_73 (x := x2) rfl ?_
    refine x_istoren C dX9_split_74 (L' := [some (.ref ((wC b).2.2.2 + 1)), some (.int x2), some (.int x2)]) (ltb rfl) rfl ?_
    refine x_goto C dX9_split_75 (tgt := 12) (by decide) ?_
    exact x_wk (L' := [some (.ref ((wC b).2.2.2 + 1)), some (.int x2), none]) (And.intro rfl (And.intro rfl trivial)) (hrec (x2) (M5))
set_option maxHeartbeats 4000000 in
set_option maxRecDepth 20000 in
theorem w_tp_split_L12 {z : ZT} {l : Launch} {g : GG} {b : Nat} (C : Cx z l g (wC b) (rmd 9) cX9_split 3 RX9 none)  {K : Mem → Option Mem} (hK : ∀ (M : Mem) , XG z g (wC b) 3 (ZQ z g (wC b) finV) 0 0 78 [some (.ref ((wC b).2.2.2 + 1)), none, none] [] M (K M)) : ∀ (fu : Nat) (x1 : Int32) (M : Mem), XG z g (wC b) 3 (ZQ z g (wC b) finV) 0 0 12 [some (.ref ((wC b).2.2.2 + 1)), some (.int x1), none] [] M (tp_split_L12 K fu x1 M) := by
  intro fu
  induction fu with
  | zero => intro x1 M; exact x_none
  | succ fu ih =>
    intro x1 M
    rw [tp_split_L12]
    refine x_iloadn C dX9_split_12 (x := x1) rfl ?_
    refine x_aloadn C dX9_split_13 rfl ?_
    refine x_getI C fl_X9_15 cl_9 nC1 kC1 fC1_1 dX9_split_14 ?_
    refine x_icmpge C dX9_split_17 (tgt := 78) (by decide) (fun _h => ?_) (fun _h => ?_)
    · exact x_wk (L' := [some (.ref ((wC b).2.2.2 + 1)), none, none]) (And.intro rfl trivial) (hK (M))
    · refine x_iloadn C dX9_split_20 (x := x1) rfl ?_
      refine x_iconst C dX9_split_21 (v := (1 : Int32)) (by decide) ?_
      refine x_iadd C dX9_split_22 ?_
      refine x_istoren C dX9_split_23 (L' := [some (.ref ((wC b).2.2.2 + 1)), some (.int x1), some (.int (x1 + (1 : Int32)))]) (ltb rfl) rfl ?_
      refine x_wk (L' := [some (.ref ((wC b).2.2.2 + 1)), some (.int x1), some (.int (x1 + (1 : Int32)))]) (And.intro rfl (And.intro rfl (And.intro rfl trivial))) (w_tp_split_L24 C  (x1) M (fun v2_3 => ?_) FU ((x1 + (1 : Int32))) )
      exact x_wk (L' := [some (.ref ((wC b).2.2.2 + 1)), some (.int x1), some (.int v2_3)]) (And.intro rfl (And.intro rfl (And.intro rfl trivial))) (w_tp_split_J56 C   ih hK (x1) (v2_3)  M)
set_option maxHeartbeats 4000000 in
set_option maxRecDepth 20000 in
theorem c_tp_split {l : Launch} {g : GG} {b : Nat} (M : Mem) : CT l g (wC b) (rmd 9) yX9_split cX9_split 3 none [.ref ((wC b).2.2.2 + 1)] M finV (tp_split  M) := by
  refine CT.of rfl (Nat.le_of_ble_eq_true rfl) (catc rfl cat0) (fun z C => ?_)
  have C : Cx z l g (wC b) (rmd 9) cX9_split 3 RX9 none := C
  refine x_wk (L' := [some (.ref ((wC b).2.2.2 + 1)), none, none]) (And.intro rfl trivial) ?_
  rw [tp_split]
  refine x_aloadn C dX9_split_0 rfl ?_
  refine x_iconst C dX9_split_1 (v := (0 : Int32)) (by decide) ?_
  refine x_putI C fl_X9_31 cl_9 fint_9_5 nC1 kC1 fC1_5 dX9_split_2 ?_
  refine x_ltM (fun M1 => ?_)
  refine x_aloadn C dX9_split_5 rfl ?_
  refine x_iconst C dX9_split_6 (v := (0 : Int32)) (by decide) ?_
  refine x_putI C fl_X9_34 cl_9 fint_9_6 nC1 kC1 fC1_6 dX9_split_7 ?_
  refine x_ltM (fun M2 => ?_)
  refine x_iconst C dX9_split_10 (v := (0 : Int32)) (by decide) ?_
  refine x_istoren C dX9_split_11 (L' := [some (.ref ((wC b).2.2.2 + 1)), some (.int (0 : Int32)), none]) (ltb rfl) rfl ?_
  refine x_wk (L' := [some (.ref ((wC b).2.2.2 + 1)), some (.int (0 : Int32)), none]) (And.intro rfl (And.intro rfl trivial)) (w_tp_split_L12 C    (fun M7 => ?_) FU ((0 : Int32)) M2)
  refine x_aloadn C dX9_split_78 rfl ?_
  refine x_getR C fl_X9_21 cl_9 (3) nC1 kC1 fC1_2 dX9_split_79 ?_
  refine x_aloadn C dX9_split_82 rfl ?_
  refine x_getI C fl_X9_31 cl_9 nC1 kC1 fC1_5 dX9_split_83 ?_
  refine x_gsT C 0 (1 : Int32) ft_X9_45 (by decide) dX9_split_86 ?_
  refine x_qast C nC3 kC3 dX9_split_89 ?_
  refine x_ltM (fun M8 => ?_)
  refine x_aloadn C dX9_split_90 rfl ?_
  refine x_getR C fl_X9_25 cl_9 (4) nC1 kC1 fC1_3 dX9_split_91 ?_
  refine x_aloadn C dX9_split_94 rfl ?_
  refine x_getI C fl_X9_31 cl_9 nC1 kC1 fC1_5 dX9_split_95 ?_
  refine x_aloadn C dX9_split_98 rfl ?_
  refine x_getI C fl_X9_15 cl_9 nC1 kC1 fC1_1 dX9_split_99 ?_
  refine x_iast C nC4 kC4 dX9_split_102 ?_
  refine x_ltM (fun M9 => ?_)
  exact x_vret C dX9_split_103 rfl
def tp_thing (M : Mem) : Option Int32 := chk (inb (M 1 6) 401) (some ((M 3 (M 1 6).toNatClampNeg)))
set_option maxHeartbeats 4000000 in
set_option maxRecDepth 20000 in
theorem c_tp_thing {l : Launch} {g : GG} {b : Nat} (M : Mem) : CT l g (wC b) (rmd 1) yX9_thing cX9_thing 1 (some (.object "RopeFerry$Thing")) [.ref ((wC b).2.2.2 + 1)] M (finQ g M) (tp_thing  M) := by
  refine CT.of rfl (Nat.le_of_ble_eq_true rfl) (catc rfl cat0) (fun z C => ?_)
  have C : Cx z l g (wC b) (rmd 1) cX9_thing 1 RX9 (some (.object "RopeFerry$Thing")) := C
  refine x_wk (L' := [some (.ref ((wC b).2.2.2 + 1))]) (And.intro rfl trivial) ?_
  rw [tp_thing]
  refine x_aloadn C dX9_thing_0 rfl ?_
  refine x_getR C fl_X9_21 cl_9 (3) nC1 kC1 fC1_2 dX9_thing_1 ?_
  refine x_aloadn C dX9_thing_4 rfl ?_
  refine x_getI C fl_X9_34 cl_9 nC1 kC1 fC1_6 dX9_thing_5 ?_
  refine x_qald C nC3 kC3 dX9_thing_8 ?_
  exact x_qret C dX9_thing_9 rfl
def tp_number (M : Mem) : Option Int32 := chk (inb (M 1 6) 401) (some ((M 5 (M 1 6).toNatClampNeg)))
set_option maxHeartbeats 4000000 in
set_option maxRecDepth 20000 in
theorem c_tp_number {l : Launch} {g : GG} {b : Nat} (M : Mem) : CT l g (wC b) (rmd 1) yX9_number cX9_number 1 (some .int) [.ref ((wC b).2.2.2 + 1)] M (finI M) (tp_number  M) := by
  refine CT.of rfl (Nat.le_of_ble_eq_true rfl) (catc rfl cat0) (fun z C => ?_)
  have C : Cx z l g (wC b) (rmd 1) cX9_number 1 RX9 (some .int) := C
  refine x_wk (L' := [some (.ref ((wC b).2.2.2 + 1))]) (And.intro rfl trivial) ?_
  rw [tp_number]
  refine x_aloadn C dX9_number_0 rfl ?_
  refine x_getR C fl_X9_28 cl_9 (5) nC1 kC1 fC1_4 dX9_number_1 ?_
  refine x_aloadn C dX9_number_4 rfl ?_
  refine x_getI C fl_X9_34 cl_9 nC1 kC1 fC1_6 dX9_number_5 ?_
  refine x_iald C nC5 kC5 dX9_number_8 ?_
  exact x_iret C dX9_number_9 rfl
def tp_start (M : Mem) : Option Int32 := chk (inb (M 1 6) 401) (some ((M 4 (M 1 6).toNatClampNeg)))
set_option maxHeartbeats 4000000 in
set_option maxRecDepth 20000 in
theorem c_tp_start {l : Launch} {g : GG} {b : Nat} (M : Mem) : CT l g (wC b) (rmd 1) yX9_start cX9_start 1 (some .int) [.ref ((wC b).2.2.2 + 1)] M (finI M) (tp_start  M) := by
  refine CT.of rfl (Nat.le_of_ble_eq_true rfl) (catc rfl cat0) (fun z C => ?_)
  have C : Cx z l g (wC b) (rmd 1) cX9_start 1 RX9 (some .int) := C
  refine x_wk (L' := [some (.ref ((wC b).2.2.2 + 1))]) (And.intro rfl trivial) ?_
  rw [tp_start]
  refine x_aloadn C dX9_start_0 rfl ?_
  refine x_getR C fl_X9_25 cl_9 (4) nC1 kC1 fC1_3 dX9_start_1 ?_
  refine x_aloadn C dX9_start_4 rfl ?_
  refine x_getI C fl_X9_34 cl_9 nC1 kC1 fC1_6 dX9_start_5 ?_
  refine x_iald C nC4 kC4 dX9_start_8 ?_
  exact x_iret C dX9_start_9 rfl
def tp_next (M : Mem) : Option Mem := (if (M 1 6) < (M 1 5) then lt1 (wr M 1 6 ((M 1 6) + (1 : Int32))) fun M1 => some M1 else some M)
set_option maxHeartbeats 4000000 in
set_option maxRecDepth 20000 in
theorem c_tp_next {l : Launch} {g : GG} {b : Nat} (M : Mem) : CT l g (wC b) (rmd 1) yX9_next cX9_next 1 none [.ref ((wC b).2.2.2 + 1)] M finV (tp_next  M) := by
  refine CT.of rfl (Nat.le_of_ble_eq_true rfl) (catc rfl cat0) (fun z C => ?_)
  have C : Cx z l g (wC b) (rmd 1) cX9_next 1 RX9 none := C
  refine x_wk (L' := [some (.ref ((wC b).2.2.2 + 1))]) (And.intro rfl trivial) ?_
  rw [tp_next]
  refine x_aloadn C dX9_next_0 rfl ?_
  refine x_getI C fl_X9_34 cl_9 nC1 kC1 fC1_6 dX9_next_1 ?_
  refine x_aloadn C dX9_next_4 rfl ?_
  refine x_getI C fl_X9_31 cl_9 nC1 kC1 fC1_5 dX9_next_5 ?_
  refine x_icmpge C dX9_next_8 (tgt := 21) (by decide) (fun _h => ?_) (fun _h => ?_)
  · exact x_vret C dX9_next_21 rfl
  · refine x_aloadn C dX9_next_11 rfl ?_
    refine x_dup C dX9_next_12 rfl ?_
    refine x_getI C fl_X9_34 cl_9 nC1 kC1 fC1_6 dX9_next_13 ?_
    refine x_iconst C dX9_next_16 (v := (1 : Int32)) (by decide) ?_
    refine x_iadd C dX9_next_17 ?_
    refine x_putI C fl_X9_34 cl_9 fint_9_6 nC1 kC1 fC1_6 dX9_next_18 ?_
    refine x_ltM (fun M1 => ?_)
    exact x_vret C dX9_next_21 rfl
def tp_take (p1 : Int32) (M : Mem) : Option (Int32 × Mem) := chk (inb (M 1 6) 401) ((if teq (M 3 (M 1 6).toNatClampNeg) p1 = true then (if (M 1 6) < (M 1 5) then lt1 (wr M 1 6 ((M 1 6) + (1 : Int32))) fun M1 => some ((1 : Int32), M1) else some ((1 : Int32), M)) else some ((0 : Int32), M)))
set_option maxHeartbeats 4000000 in
set_option maxRecDepth 20000 in
theorem c_tp_take {l : Launch} {g : GG} {b : Nat} (p1 : Int32) (M : Mem) : CT l g (wC b) (rmd 1) yX9_take cX9_take 2 (some .boolean) [.ref ((wC b).2.2.2 + 1), va_rf (ths g p1)] M finM (tp_take p1 M) := by
  refine CT.of rfl (Nat.le_of_ble_eq_true rfl) (catc rfl (catc (cat_rf _) cat0)) (fun z C => ?_)
  have C : Cx z l g (wC b) (rmd 1) cX9_take 2 RX9 (some .boolean) := C
  refine x_wk (L' := [some (.ref ((wC b).2.2.2 + 1)), some (va_rf (ths g p1))]) (And.intro rfl (And.intro rfl trivial)) ?_
  rw [tp_take]
  refine x_aloadn C dX9_take_0 rfl ?_
  refine x_getR C fl_X9_21 cl_9 (3) nC1 kC1 fC1_2 dX9_take_1 ?_
  refine x_aloadn C dX9_take_4 rfl ?_
  refine x_getI C fl_X9_34 cl_9 nC1 kC1 fC1_6 dX9_take_5 ?_
  refine x_qald C nC3 kC3 dX9_take_8 ?_
  refine x_qloadn C dX9_take_9 rfl ?_
  refine x_acmpeq C dX9_take_10 (tgt := 15) (by decide) (fun _h => ?_) (fun _h => ?_)
  · refine x_aloadn C dX9_take_15 rfl ?_
    refine x_getI C fl_X9_34 cl_9 nC1 kC1 fC1_6 dX9_take_16 ?_
    refine x_aloadn C dX9_take_19 rfl ?_
    refine x_getI C fl_X9_31 cl_9 nC1 kC1 fC1_5 dX9_take_20 ?_
    refine x_icmpge C dX9_take_23 (tgt := 36) (by decide) (fun _h => ?_) (fun _h => ?_)
    · refine x_iconst C dX9_take_36 (v := (1 : Int32)) (by decide) ?_
      exact x_zret C dX9_take_37 rfl rfl
    · refine x_aloadn C dX9_take_26 rfl ?_
      refine x_dup C dX9_take_27 rfl ?_
      refine x_getI C fl_X9_34 cl_9 nC1 kC1 fC1_6 dX9_take_28 ?_
      refine x_iconst C dX9_take_31 (v := (1 : Int32)) (by decide) ?_
      refine x_iadd C dX9_take_32 ?_
      refine x_putI C fl_X9_34 cl_9 fint_9_6 nC1 kC1 fC1_6 dX9_take_33 ?_
      refine x_ltM (fun M1 => ?_)
      refine x_iconst C dX9_take_36 (v := (1 : Int32)) (by decide) ?_
      exact x_zret C dX9_take_37 rfl rfl
  · refine x_iconst C dX9_take_13 (v := (0 : Int32)) (by decide) ?_
    exact x_zret C dX9_take_14 rfl rfl
def rv_copyFrom (R : Nat) (Q : Nat) (M : Mem) : Option Mem := lt1 (wr M R 0 (M Q 0)) fun M1 => lt1 (wr M1 R 1 (M1 Q 1)) fun M2 => lt1 (cpy M2 (Q + 1) (R + 1) 10) fun M3 => lt1 (cpy M3 (Q + 2) (R + 2) 10) fun M4 => lt1 (cpy M4 (Q + 3) (R + 3) 10) fun M5 => lt1 (wr M5 R 5 (M5 Q 5)) fun M6 => lt1 (wr M6 R 6 (M6 Q 6)) fun M7 => lt1 (wr M7 R 7 (M7 Q 7)) fun M8 => lt1 (wr M8 R 8 (M8 Q 8)) fun M9 => lt1 (cpy M9 (Q + 4) (R + 4) 24) fun M10 => lt1 (wr M10 R 10 (M10 Q 10)) fun M11 => lt1 (cpy M11 (Q + 5) (R + 5) 12) fun M12 => lt1 (cpy M12 (Q + 6) (R + 6) 12) fun M13 => lt1 (wr M13 R 13 (M13 Q 13)) fun M14 => lt1 (cpy M14 (Q + 7) (R + 7) 10) fun M15 => some M15
set_option maxHeartbeats 4000000 in
set_option maxRecDepth 20000 in
theorem c_rv_copyFrom {l : Launch} {g : GG} {b : Nat} {R : Nat} {Q : Nat} (hR : isRiv R) (hQ : isRiv Q) (M : Mem) : CT l g (wC b) (rmd 1) yX5_copyFrom cX5_copyFrom 2 none [.ref ((wC b).2.2.2 + R), .ref ((wC b).2.2.2 + Q)] M finV (rv_copyFrom R Q M) := by
  refine CT.of rfl (Nat.le_of_ble_eq_true rfl) (catc rfl (catc rfl cat0)) (fun z C => ?_)
  have C : Cx z l g (wC b) (rmd 1) cX5_copyFrom 2 RX5 none := C
  refine x_wk (L' := [some (.ref ((wC b).2.2.2 + R)), some (.ref ((wC b).2.2.2 + Q))]) (And.intro rfl (And.intro rfl trivial)) ?_
  rw [rv_copyFrom]
  refine x_aloadn C dX5_copyFrom_0 rfl ?_
  refine x_aloadn C dX5_copyFrom_1 rfl ?_
  refine x_getI C fl_X5_9 cl_5 (nisRiv_0 hQ) (kisRiv_0 hQ) (fisRiv_0 hQ) dX5_copyFrom_2 ?_
  refine x_putI C fl_X5_9 cl_5 fint_5_0 (nisRiv_0 hR) (kisRiv_0 hR) (fisRiv_0 hR) dX5_copyFrom_5 ?_
  refine x_ltM (fun M1 => ?_)
  refine x_aloadn C dX5_copyFrom_8 rfl ?_
  refine x_aloadn C dX5_copyFrom_9 rfl ?_
  refine x_getI C fl_X5_15 cl_5 (nisRiv_0 hQ) (kisRiv_0 hQ) (fisRiv_1 hQ) dX5_copyFrom_10 ?_
  refine x_putI C fl_X5_15 cl_5 fint_5_1 (nisRiv_0 hR) (kisRiv_0 hR) (fisRiv_1 hR) dX5_copyFrom_13 ?_
  refine x_ltM (fun M2 => ?_)
  refine x_aloadn C dX5_copyFrom_16 rfl ?_
  refine x_getR C fl_X5_18 cl_5 (Q + 1) (nisRiv_0 hQ) (kisRiv_0 hQ) (fisRiv_2 hQ) dX5_copyFrom_17 ?_
  refine x_iconst C dX5_copyFrom_20 (v := (0 : Int32)) (by decide) ?_
  refine x_aloadn C dX5_copyFrom_21 rfl ?_
  refine x_getR C fl_X5_18 cl_5 (R + 1) (nisRiv_0 hR) (kisRiv_0 hR) (fisRiv_2 hR) dX5_copyFrom_22 ?_
  refine x_iconst C dX5_copyFrom_25 (v := (0 : Int32)) (by decide) ?_
  refine x_bipush C dX5_copyFrom_26 (v := (10 : Int32)) (by decide) ?_
  refine x_copy C ly_X5_64 (Nat.le_of_ble_eq_true rfl) ⟨by decide, by decide⟩ (nisRiv_1 hQ) (kisRiv_1 hQ) (nisRiv_1 hR) (kisRiv_1 hR) (by decide) (mn := 10) (by decide) (by decide) (by decide) dX5_copyFrom_28 ?_
  refine x_ltM (fun M3 => ?_)
  refine x_aloadn C dX5_copyFrom_31 rfl ?_
  refine x_getR C fl_X5_22 cl_5 (Q + 2) (nisRiv_0 hQ) (kisRiv_0 hQ) (fisRiv_3 hQ) dX5_copyFrom_32 ?_
  refine x_iconst C dX5_copyFrom_35 (v := (0 : Int32)) (by decide) ?_
  refine x_aloadn C dX5_copyFrom_36 rfl ?_
  refine x_getR C fl_X5_22 cl_5 (R + 2) (nisRiv_0 hR) (kisRiv_0 hR) (fisRiv_3 hR) dX5_copyFrom_37 ?_
  refine x_iconst C dX5_copyFrom_40 (v := (0 : Int32)) (by decide) ?_
  refine x_bipush C dX5_copyFrom_41 (v := (10 : Int32)) (by decide) ?_
  refine x_copy C ly_X5_64 (Nat.le_of_ble_eq_true rfl) ⟨by decide, by decide⟩ (nisRiv_2 hQ) (kisRiv_2 hQ) (nisRiv_2 hR) (kisRiv_2 hR) (by decide) (mn := 10) (by decide) (by decide) (by decide) dX5_copyFrom_43 ?_
  refine x_ltM (fun M4 => ?_)
  refine x_aloadn C dX5_copyFrom_46 rfl ?_
  refine x_getR C fl_X5_25 cl_5 (Q + 3) (nisRiv_0 hQ) (kisRiv_0 hQ) (fisRiv_4 hQ) dX5_copyFrom_47 ?_
  refine x_iconst C dX5_copyFrom_50 (v := (0 : Int32)) (by decide) ?_
  refine x_aloadn C dX5_copyFrom_51 rfl ?_
  refine x_getR C fl_X5_25 cl_5 (R + 3) (nisRiv_0 hR) (kisRiv_0 hR) (fisRiv_4 hR) dX5_copyFrom_52 ?_
  refine x_iconst C dX5_copyFrom_55 (v := (0 : Int32)) (by decide) ?_
  refine x_bipush C dX5_copyFrom_56 (v := (10 : Int32)) (by decide) ?_
  refine x_copy C ly_X5_64 (Nat.le_of_ble_eq_true rfl) ⟨by decide, by decide⟩ (nisRiv_3 hQ) (kisRiv_3 hQ) (nisRiv_3 hR) (kisRiv_3 hR) (by decide) (mn := 10) (by decide) (by decide) (by decide) dX5_copyFrom_58 ?_
  refine x_ltM (fun M5 => ?_)
  refine x_aloadn C dX5_copyFrom_61 rfl ?_
  refine x_aloadn C dX5_copyFrom_62 rfl ?_
  refine x_getI C fl_X5_28 cl_5 (nisRiv_0 hQ) (kisRiv_0 hQ) (fisRiv_5 hQ) dX5_copyFrom_63 ?_
  refine x_putI C fl_X5_28 cl_5 fint_5_5 (nisRiv_0 hR) (kisRiv_0 hR) (fisRiv_5 hR) dX5_copyFrom_66 ?_
  refine x_ltM (fun M6 => ?_)
  refine x_aloadn C dX5_copyFrom_69 rfl ?_
  refine x_aloadn C dX5_copyFrom_70 rfl ?_
  refine x_getI C fl_X5_31 cl_5 (nisRiv_0 hQ) (kisRiv_0 hQ) (fisRiv_6 hQ) dX5_copyFrom_71 ?_
  refine x_putI C fl_X5_31 cl_5 fint_5_6 (nisRiv_0 hR) (kisRiv_0 hR) (fisRiv_6 hR) dX5_copyFrom_74 ?_
  refine x_ltM (fun M7 => ?_)
  refine x_aloadn C dX5_copyFrom_77 rfl ?_
  refine x_aloadn C dX5_copyFrom_78 rfl ?_
  refine x_getI C fl_X5_34 cl_5 (nisRiv_0 hQ) (kisRiv_0 hQ) (fisRiv_7 hQ) dX5_copyFrom_79 ?_
  refine x_putI C fl_X5_34 cl_5 fint_5_7 (nisRiv_0 hR) (kisRiv_0 hR) (fisRiv_7 hR) dX5_copyFrom_82 ?_
  refine x_ltM (fun M8 => ?_)
  refine x_aloadn C dX5_copyFrom_85 rfl ?_
  refine x_aloadn C dX5_copyFrom_86 rfl ?_
  refine x_getI C fl_X5_37 cl_5 (nisRiv_0 hQ) (kisRiv_0 hQ) (fisRiv_8 hQ) dX5_copyFrom_87 ?_
  refine x_putI C fl_X5_37 cl_5 fint_5_8 (nisRiv_0 hR) (kisRiv_0 hR) (fisRiv_8 hR) dX5_copyFrom_90 ?_
  refine x_ltM (fun M9 => ?_)
  refine x_aloadn C dX5_copyFrom_93 rfl ?_
  refine x_getR C fl_X5_40 cl_5 (Q + 4) (nisRiv_0 hQ) (kisRiv_0 hQ) (fisRiv_9 hQ) dX5_copyFrom_94 ?_
  refine x_iconst C dX5_copyFrom_97 (v := (0 : Int32)) (by decide) ?_
  refine x_aloadn C dX5_copyFrom_98 rfl ?_
  refine x_getR C fl_X5_40 cl_5 (R + 4) (nisRiv_0 hR) (kisRiv_0 hR) (fisRiv_9 hR) dX5_copyFrom_99 ?_
  refine x_iconst C dX5_copyFrom_102 (v := (0 : Int32)) (by decide) ?_
  refine x_bipush C dX5_copyFrom_103 (v := (24 : Int32)) (by decide) ?_
  refine x_copy C ly_X5_64 (Nat.le_of_ble_eq_true rfl) ⟨by decide, by decide⟩ (nisRiv_4 hQ) (kisRiv_4 hQ) (nisRiv_4 hR) (kisRiv_4 hR) (by decide) (mn := 24) (by decide) (by decide) (by decide) dX5_copyFrom_105 ?_
  refine x_ltM (fun M10 => ?_)
  refine x_aloadn C dX5_copyFrom_108 rfl ?_
  refine x_aloadn C dX5_copyFrom_109 rfl ?_
  refine x_getI C fl_X5_43 cl_5 (nisRiv_0 hQ) (kisRiv_0 hQ) (fisRiv_10 hQ) dX5_copyFrom_110 ?_
  refine x_putI C fl_X5_43 cl_5 fint_5_10 (nisRiv_0 hR) (kisRiv_0 hR) (fisRiv_10 hR) dX5_copyFrom_113 ?_
  refine x_ltM (fun M11 => ?_)
  refine x_aloadn C dX5_copyFrom_116 rfl ?_
  refine x_getR C fl_X5_46 cl_5 (Q + 5) (nisRiv_0 hQ) (kisRiv_0 hQ) (fisRiv_11 hQ) dX5_copyFrom_117 ?_
  refine x_iconst C dX5_copyFrom_120 (v := (0 : Int32)) (by decide) ?_
  refine x_aloadn C dX5_copyFrom_121 rfl ?_
  refine x_getR C fl_X5_46 cl_5 (R + 5) (nisRiv_0 hR) (kisRiv_0 hR) (fisRiv_11 hR) dX5_copyFrom_122 ?_
  refine x_iconst C dX5_copyFrom_125 (v := (0 : Int32)) (by decide) ?_
  refine x_bipush C dX5_copyFrom_126 (v := (12 : Int32)) (by decide) ?_
  refine x_copy C ly_X5_64 (Nat.le_of_ble_eq_true rfl) ⟨by decide, by decide⟩ (nisRiv_5 hQ) (kisRiv_5 hQ) (nisRiv_5 hR) (kisRiv_5 hR) (by decide) (mn := 12) (by decide) (by decide) (by decide) dX5_copyFrom_128 ?_
  refine x_ltM (fun M12 => ?_)
  refine x_aloadn C dX5_copyFrom_131 rfl ?_
  refine x_getR C fl_X5_49 cl_5 (Q + 6) (nisRiv_0 hQ) (kisRiv_0 hQ) (fisRiv_12 hQ) dX5_copyFrom_132 ?_
  refine x_iconst C dX5_copyFrom_135 (v := (0 : Int32)) (by decide) ?_
  refine x_aloadn C dX5_copyFrom_136 rfl ?_
  refine x_getR C fl_X5_49 cl_5 (R + 6) (nisRiv_0 hR) (kisRiv_0 hR) (fisRiv_12 hR) dX5_copyFrom_137 ?_
  refine x_iconst C dX5_copyFrom_140 (v := (0 : Int32)) (by decide) ?_
  refine x_bipush C dX5_copyFrom_141 (v := (12 : Int32)) (by decide) ?_
  refine x_copy C ly_X5_64 (Nat.le_of_ble_eq_true rfl) ⟨by decide, by decide⟩ (nisRiv_6 hQ) (kisRiv_6 hQ) (nisRiv_6 hR) (kisRiv_6 hR) (by decide) (mn := 12) (by decide) (by decide) (by decide) dX5_copyFrom_143 ?_
  refine x_ltM (fun M13 => ?_)
  refine x_aloadn C dX5_copyFrom_146 rfl ?_
  refine x_aloadn C dX5_copyFrom_147 rfl ?_
  refine x_getI C fl_X5_52 cl_5 (nisRiv_0 hQ) (kisRiv_0 hQ) (fisRiv_13 hQ) dX5_copyFrom_148 ?_
  refine x_putI C fl_X5_52 cl_5 fint_5_13 (nisRiv_0 hR) (kisRiv_0 hR) (fisRiv_13 hR) dX5_copyFrom_151 ?_
  refine x_ltM (fun M14 => ?_)
  refine x_aloadn C dX5_copyFrom_154 rfl ?_
  refine x_getR C fl_X5_55 cl_5 (Q + 7) (nisRiv_0 hQ) (kisRiv_0 hQ) (fisRiv_14 hQ) dX5_copyFrom_155 ?_
  refine x_iconst C dX5_copyFrom_158 (v := (0 : Int32)) (by decide) ?_
  refine x_aloadn C dX5_copyFrom_159 rfl ?_
  refine x_getR C fl_X5_55 cl_5 (R + 7) (nisRiv_0 hR) (kisRiv_0 hR) (fisRiv_14 hR) dX5_copyFrom_160 ?_
  refine x_iconst C dX5_copyFrom_163 (v := (0 : Int32)) (by decide) ?_
  refine x_bipush C dX5_copyFrom_164 (v := (10 : Int32)) (by decide) ?_
  refine x_copy C ly_X5_64 (Nat.le_of_ble_eq_true rfl) ⟨by decide, by decide⟩ (nisRiv_7 hQ) (kisRiv_7 hQ) (nisRiv_7 hR) (kisRiv_7 hR) (by decide) (mn := 10) (by decide) (by decide) (by decide) dX5_copyFrom_166 ?_
  refine x_ltM (fun M15 => ?_)
  exact x_vret C dX5_copyFrom_169 rfl
def rv_hasBeing (R : Nat) (p1 : Int32) (M : Mem) : Option Int32 := (if p1 < 0 then some ((0 : Int32)) else (if p1 < (M R 1) then some ((1 : Int32)) else some ((0 : Int32))))
set_option maxHeartbeats 4000000 in
set_option maxRecDepth 20000 in
theorem c_rv_hasBeing {l : Launch} {g : GG} {b : Nat} {R : Nat} (hR : isRiv R) (p1 : Int32) (M : Mem) : CT l g (wC b) (rmd 1) yX5_hasBeing cX5_hasBeing 2 (some .boolean) [.ref ((wC b).2.2.2 + R), .int p1] M (finI M) (rv_hasBeing R p1 M) := by
  refine CT.of rfl (Nat.le_of_ble_eq_true rfl) (catc rfl (catc rfl cat0)) (fun z C => ?_)
  have C : Cx z l g (wC b) (rmd 1) cX5_hasBeing 2 RX5 (some .boolean) := C
  refine x_wk (L' := [some (.ref ((wC b).2.2.2 + R)), some (.int p1)]) (And.intro rfl (And.intro rfl trivial)) ?_
  rw [rv_hasBeing]
  refine x_iloadn C dX5_hasBeing_0 (x := p1) rfl ?_
  refine x_iflt C dX5_hasBeing_1 (tgt := 16) (by decide) (fun _h => ?_) (fun _h => ?_)
  · refine x_iconst C dX5_hasBeing_16 (v := (0 : Int32)) (by decide) ?_
    exact x_zret C dX5_hasBeing_17 rfl rfl
  · refine x_iloadn C dX5_hasBeing_4 (x := p1) rfl ?_
    refine x_aloadn C dX5_hasBeing_5 rfl ?_
    refine x_getI C fl_X5_15 cl_5 (nisRiv_0 hR) (kisRiv_0 hR) (fisRiv_1 hR) dX5_hasBeing_6 ?_
    refine x_icmpge C dX5_hasBeing_9 (tgt := 16) (by decide) (fun _h => ?_) (fun _h => ?_)
    · refine x_iconst C dX5_hasBeing_16 (v := (0 : Int32)) (by decide) ?_
      exact x_zret C dX5_hasBeing_17 rfl rfl
    · refine x_iconst C dX5_hasBeing_12 (v := (1 : Int32)) (by decide) ?_
      refine x_goto C dX5_hasBeing_13 (tgt := 17) (by decide) ?_
      exact x_zret C dX5_hasBeing_17 rfl rfl
def rv_everyone (R : Nat) (M : Mem) : Option Int32 := some ((((1 : Int32) <<< ((M R 1) &&& 31)) - (1 : Int32)))
set_option maxHeartbeats 4000000 in
set_option maxRecDepth 20000 in
theorem c_rv_everyone {l : Launch} {g : GG} {b : Nat} {R : Nat} (hR : isRiv R) (M : Mem) : CT l g (wC b) (rmd 1) yX5_everyone cX5_everyone 1 (some .int) [.ref ((wC b).2.2.2 + R)] M (finI M) (rv_everyone R M) := by
  refine CT.of rfl (Nat.le_of_ble_eq_true rfl) (catc rfl cat0) (fun z C => ?_)
  have C : Cx z l g (wC b) (rmd 1) cX5_everyone 1 RX5 (some .int) := C
  refine x_wk (L' := [some (.ref ((wC b).2.2.2 + R))]) (And.intro rfl trivial) ?_
  rw [rv_everyone]
  refine x_iconst C dX5_everyone_0 (v := (1 : Int32)) (by decide) ?_
  refine x_aloadn C dX5_everyone_1 rfl ?_
  refine x_getI C fl_X5_15 cl_5 (nisRiv_0 hR) (kisRiv_0 hR) (fisRiv_1 hR) dX5_everyone_2 ?_
  refine x_ishl C dX5_everyone_5 ?_
  refine x_iconst C dX5_everyone_6 (v := (1 : Int32)) (by decide) ?_
  refine x_isub C dX5_everyone_7 ?_
  exact x_iret C dX5_everyone_8 rfl
def rv_debtors_L4 (R : Nat) (M : Mem) (K : Int32 → Option Int32) : Nat → Int32 → Int32 → Option Int32
  | 0, _, _ => none
  | fu + 1, x1, x2 => (if x2 < (M R 1) then chk (inb x2 10) ((if (M (R + 1) x2.toNatClampNeg) = 0 then rv_debtors_L4 R M K fu ((x1 ||| ((1 : Int32) <<< (x2 &&& 31)))) ((x2 + (1 : Int32))) else chk (inb x2 10) ((if (M (R + 1) x2.toNatClampNeg) = (3 : Int32) then rv_debtors_L4 R M K fu ((x1 ||| ((1 : Int32) <<< (x2 &&& 31)))) ((x2 + (1 : Int32))) else rv_debtors_L4 R M K fu (x1) ((x2 + (1 : Int32))))))) else K (x1))
def rv_debtors (R : Nat) (M : Mem) : Option Int32 := rv_debtors_L4 R M (fun v1_0 => some (v1_0)) FU ((0 : Int32)) ((0 : Int32))
set_option maxHeartbeats 4000000 in
set_option maxRecDepth 20000 in
theorem w_rv_debtors_L4 {z : ZT} {l : Launch} {g : GG} {b : Nat} {R : Nat} (C : Cx z l g (wC b) (rmd 1) cX5_debtors 3 RX5 (some .int)) (hR : isRiv R) (M : Mem) {K : Int32 → Option Int32} (hK : ∀ (x1 : Int32) , XG z g (wC b) 3 (ZQ z g (wC b) (finI M)) 0 0 43 [none, some (.int x1), none] [] M (K x1)) : ∀ (fu : Nat) (x1 : Int32) (x2 : Int32), XG z g (wC b) 3 (ZQ z g (wC b) (finI M)) 0 0 4 [some (.ref ((wC b).2.2.2 + R)), some (.int x1), some (.int x2)] [] M (rv_debtors_L4 R M K fu x1 x2) := by
  intro fu
  induction fu with
  | zero => intro x1 x2; exact x_none
  | succ fu ih =>
    intro x1 x2
    rw [rv_debtors_L4]
    refine x_iloadn C dX5_debtors_4 (x := x2) rfl ?_
    refine x_aloadn C dX5_debtors_5 rfl ?_
    refine x_getI C fl_X5_15 cl_5 (nisRiv_0 hR) (kisRiv_0 hR) (fisRiv_1 hR) dX5_debtors_6 ?_
    refine x_icmpge C dX5_debtors_9 (tgt := 43) (by decide) (fun _h => ?_) (fun _h => ?_)
    · exact x_wk (L' := [none, some (.int x1), none]) (And.intro rfl trivial) (hK (x1))
    · refine x_aloadn C dX5_debtors_12 rfl ?_
      refine x_getR C fl_X5_18 cl_5 (R + 1) (nisRiv_0 hR) (kisRiv_0 hR) (fisRiv_2 hR) dX5_debtors_13 ?_
      refine x_iloadn C dX5_debtors_16 (x := x2) rfl ?_
      refine x_iald C (nisRiv_1 hR) (kisRiv_1 hR) dX5_debtors_17 ?_
      refine x_ifeq C dX5_debtors_18 (tgt := 31) (by decide) (fun _h => ?_) (fun _h => ?_)
      · refine x_iloadn C dX5_debtors_31 (x := x1) rfl ?_
        refine x_iconst C dX5_debtors_32 (v := (1 : Int32)) (by decide) ?_
        refine x_iloadn C dX5_debtors_33 (x := x2) rfl ?_
        refine x_ishl C dX5_debtors_34 ?_
        refine x_ior C dX5_debtors_35 ?_
        refine x_istoren C dX5_debtors_36 (L' := [some (.ref ((wC b).2.2.2 + R)), some (.int (x1 ||| ((1 : Int32) <<< (x2 &&& 31)))), some (.int x2)]) (ltb rfl) rfl ?_
        refine x_iinc C dX5_debtors_37 (v := (x2 + (1 : Int32))) rfl rfl (L' := [some (.ref ((wC b).2.2.2 + R)), some (.int (x1 ||| ((1 : Int32) <<< (x2 &&& 31)))), some (.int (x2 + (1 : Int32)))]) rfl ?_
        refine x_goto C dX5_debtors_40 (tgt := 4) (by decide) ?_
        exact x_wk (L' := [some (.ref ((wC b).2.2.2 + R)), some (.int (x1 ||| ((1 : Int32) <<< (x2 &&& 31)))), some (.int (x2 + (1 : Int32)))]) (And.intro rfl (And.intro rfl (And.intro rfl trivial))) (ih ((x1 ||| ((1 : Int32) <<< (x2 &&& 31)))) ((x2 + (1 : Int32))))
      · refine x_aloadn C dX5_debtors_21 rfl ?_
        refine x_getR C fl_X5_18 cl_5 (R + 1) (nisRiv_0 hR) (kisRiv_0 hR) (fisRiv_2 hR) dX5_debtors_22 ?_
        refine x_iloadn C dX5_debtors_25 (x := x2) rfl ?_
        refine x_iald C (nisRiv_1 hR) (kisRiv_1 hR) dX5_debtors_26 ?_
        refine x_iconst C dX5_debtors_27 (v := (3 : Int32)) (by decide) ?_
        refine x_icmpne C dX5_debtors_28 (tgt := 37) (by decide) (fun _h => ?_) (fun _h => ?_)
        · refine x_iinc C dX5_debtors_37 (v := (x2 + (1 : Int32))) rfl rfl (L' := [some (.ref ((wC b).2.2.2 + R)), some (.int x1), some (.int (x2 + (1 : Int32)))]) rfl ?_
          refine x_goto C dX5_debtors_40 (tgt := 4) (by decide) ?_
          exact x_wk (L' := [some (.ref ((wC b).2.2.2 + R)), some (.int x1), some (.int (x2 + (1 : Int32)))]) (And.intro rfl (And.intro rfl (And.intro rfl trivial))) (ih (x1) ((x2 + (1 : Int32))))
        · refine x_iloadn C dX5_debtors_31 (x := x1) rfl ?_
          refine x_iconst C dX5_debtors_32 (v := (1 : Int32)) (by decide) ?_
          refine x_iloadn C dX5_debtors_33 (x := x2) rfl ?_
          refine x_ishl C dX5_debtors_34 ?_
          refine x_ior C dX5_debtors_35 ?_
          refine x_istoren C dX5_debtors_36 (L' := [some (.ref ((wC b).2.2.2 + R)), some (.int (x1 ||| ((1 : Int32) <<< (x2 &&& 31)))), some (.int x2)]) (ltb rfl) rfl ?_
          refine x_iinc C dX5_debtors_37 (v := (x2 + (1 : Int32))) rfl rfl (L' := [some (.ref ((wC b).2.2.2 + R)), some (.int (x1 ||| ((1 : Int32) <<< (x2 &&& 31)))), some (.int (x2 + (1 : Int32)))]) rfl ?_
          refine x_goto C dX5_debtors_40 (tgt := 4) (by decide) ?_
          exact x_wk (L' := [some (.ref ((wC b).2.2.2 + R)), some (.int (x1 ||| ((1 : Int32) <<< (x2 &&& 31)))), some (.int (x2 + (1 : Int32)))]) (And.intro rfl (And.intro rfl (And.intro rfl trivial))) (ih ((x1 ||| ((1 : Int32) <<< (x2 &&& 31)))) ((x2 + (1 : Int32))))
set_option maxHeartbeats 4000000 in
set_option maxRecDepth 20000 in
theorem c_rv_debtors {l : Launch} {g : GG} {b : Nat} {R : Nat} (hR : isRiv R) (M : Mem) : CT l g (wC b) (rmd 1) yX5_debtors cX5_debtors 3 (some .int) [.ref ((wC b).2.2.2 + R)] M (finI M) (rv_debtors R M) := by
  refine CT.of rfl (Nat.le_of_ble_eq_true rfl) (catc rfl cat0) (fun z C => ?_)
  have C : Cx z l g (wC b) (rmd 1) cX5_debtors 3 RX5 (some .int) := C
  refine x_wk (L' := [some (.ref ((wC b).2.2.2 + R)), none, none]) (And.intro rfl trivial) ?_
  rw [rv_debtors]
  refine x_iconst C dX5_debtors_0 (v := (0 : Int32)) (by decide) ?_
  refine x_istoren C dX5_debtors_1 (L' := [some (.ref ((wC b).2.2.2 + R)), some (.int (0 : Int32)), none]) (ltb rfl) rfl ?_
  refine x_iconst C dX5_debtors_2 (v := (0 : Int32)) (by decide) ?_
  refine x_istoren C dX5_debtors_3 (L' := [some (.ref ((wC b).2.2.2 + R)), some (.int (0 : Int32)), some (.int (0 : Int32))]) (ltb rfl) rfl ?_
  refine x_wk (L' := [some (.ref ((wC b).2.2.2 + R)), some (.int (0 : Int32)), some (.int (0 : Int32))]) (And.intro rfl (And.intro rfl (And.intro rfl trivial))) (w_rv_debtors_L4 C hR   M (fun v1_0 => ?_) FU ((0 : Int32)) ((0 : Int32)) )
  refine x_iloadn C dX5_debtors_43 (x := v1_0) rfl ?_
  exact x_iret C dX5_debtors_44 rfl
def rv_isPeaceful_L2 (R : Nat) (p1 : Int32) (M : Mem) (K : Option Int32) : Nat → Int32 → Option Int32
  | 0, _ => none
  | fu + 1, x2 => (if x2 < (M R 10) then chk (inb x2 12) (chk (inb x2 12) ((if (p1 &&& (M (R + 5) x2.toNatClampNeg)) = (M (R + 5) x2.toNatClampNeg) then chk (inb x2 12) ((if (p1 &&& (M (R + 6) x2.toNatClampNeg)) = 0 then some ((0 : Int32)) else rv_isPeaceful_L2 R p1 M K fu ((x2 + (1 : Int32))))) else rv_isPeaceful_L2 R p1 M K fu ((x2 + (1 : Int32)))))) else K)
def rv_isPeaceful (R : Nat) (p1 : Int32) (M : Mem) : Option Int32 := rv_isPeaceful_L2 R p1 M (some ((1 : Int32))) FU ((0 : Int32))
set_option maxHeartbeats 4000000 in
set_option maxRecDepth 20000 in
theorem w_rv_isPeaceful_L2 {z : ZT} {l : Launch} {g : GG} {b : Nat} {R : Nat} (C : Cx z l g (wC b) (rmd 1) cX5_isPeaceful 3 RX5 (some .boolean)) (hR : isRiv R) (p1 : Int32) (M : Mem) {K : Option Int32} (hK : XG z g (wC b) 3 (ZQ z g (wC b) (finI M)) 0 0 46 [none, none, none] [] M (K )) : ∀ (fu : Nat) (x2 : Int32), XG z g (wC b) 3 (ZQ z g (wC b) (finI M)) 0 0 2 [some (.ref ((wC b).2.2.2 + R)), some (.int p1), some (.int x2)] [] M (rv_isPeaceful_L2 R p1 M K fu x2) := by
  intro fu
  induction fu with
  | zero => intro x2; exact x_none
  | succ fu ih =>
    intro x2
    rw [rv_isPeaceful_L2]
    refine x_iloadn C dX5_isPeaceful_2 (x := x2) rfl ?_
    refine x_aloadn C dX5_isPeaceful_3 rfl ?_
    refine x_getI C fl_X5_43 cl_5 (nisRiv_0 hR) (kisRiv_0 hR) (fisRiv_10 hR) dX5_isPeaceful_4 ?_
    refine x_icmpge C dX5_isPeaceful_7 (tgt := 46) (by decide) (fun _h => ?_) (fun _h => ?_)
    · exact x_wk (L' := [none, none, none]) (trivial) (hK )
    · refine x_iloadn C dX5_isPeaceful_10 (x := p1) rfl ?_
      refine x_aloadn C dX5_isPeaceful_11 rfl ?_
      refine x_getR C fl_X5_46 cl_5 (R + 5) (nisRiv_0 hR) (kisRiv_0 hR) (fisRiv_11 hR) dX5_isPeaceful_12 ?_
      refine x_iloadn C dX5_isPeaceful_15 (x := x2) rfl ?_
      refine x_iald C (nisRiv_5 hR) (kisRiv_5 hR) dX5_isPeaceful_16 ?_
      refine x_iand C dX5_isPeaceful_17 ?_
      refine x_aloadn C dX5_isPeaceful_18 rfl ?_
      refine x_getR C fl_X5_46 cl_5 (R + 5) (nisRiv_0 hR) (kisRiv_0 hR) (fisRiv_11 hR) dX5_isPeaceful_19 ?_
      refine x_iloadn C dX5_isPeaceful_22 (x := x2) rfl ?_
      refine x_iald C (nisRiv_5 hR) (kisRiv_5 hR) dX5_isPeaceful_23 ?_
      refine x_icmpne C dX5_isPeaceful_24 (tgt := 40) (by decide) (fun _h => ?_) (fun _h => ?_)
      · refine x_iinc C dX5_isPeaceful_40 (v := (x2 + (1 : Int32))) rfl rfl (L' := [some (.ref ((wC b).2.2.2 + R)), some (.int p1), some (.int (x2 + (1 : Int32)))]) rfl ?_
        refine x_goto C dX5_isPeaceful_43 (tgt := 2) (by decide) ?_
        exact x_wk (L' := [some (.ref ((wC b).2.2.2 + R)), some (.int p1), some (.int (x2 + (1 : Int32)))]) (And.intro rfl (And.intro rfl (And.intro rfl trivial))) (ih ((x2 + (1 : Int32))))
      · refine x_iloadn C dX5_isPeaceful_27 (x := p1) rfl ?_
        refine x_aloadn C dX5_isPeaceful_28 rfl ?_
        refine x_getR C fl_X5_49 cl_5 (R + 6) (nisRiv_0 hR) (kisRiv_0 hR) (fisRiv_12 hR) dX5_isPeaceful_29 ?_
        refine x_iloadn C dX5_isPeaceful_32 (x := x2) rfl ?_
        refine x_iald C (nisRiv_6 hR) (kisRiv_6 hR) dX5_isPeaceful_33 ?_
        refine x_iand C dX5_isPeaceful_34 ?_
        refine x_ifne C dX5_isPeaceful_35 (tgt := 40) (by decide) (fun _h => ?_) (fun _h => ?_)
        · refine x_iinc C dX5_isPeaceful_40 (v := (x2 + (1 : Int32))) rfl rfl (L' := [some (.ref ((wC b).2.2.2 + R)), some (.int p1), some (.int (x2 + (1 : Int32)))]) rfl ?_
          refine x_goto C dX5_isPeaceful_43 (tgt := 2) (by decide) ?_
          exact x_wk (L' := [some (.ref ((wC b).2.2.2 + R)), some (.int p1), some (.int (x2 + (1 : Int32)))]) (And.intro rfl (And.intro rfl (And.intro rfl trivial))) (ih ((x2 + (1 : Int32))))
        · refine x_iconst C dX5_isPeaceful_38 (v := (0 : Int32)) (by decide) ?_
          exact x_zret C dX5_isPeaceful_39 rfl rfl
set_option maxHeartbeats 4000000 in
set_option maxRecDepth 20000 in
theorem c_rv_isPeaceful {l : Launch} {g : GG} {b : Nat} {R : Nat} (hR : isRiv R) (p1 : Int32) (M : Mem) : CT l g (wC b) (rmd 1) yX5_isPeaceful cX5_isPeaceful 3 (some .boolean) [.ref ((wC b).2.2.2 + R), .int p1] M (finI M) (rv_isPeaceful R p1 M) := by
  refine CT.of rfl (Nat.le_of_ble_eq_true rfl) (catc rfl (catc rfl cat0)) (fun z C => ?_)
  have C : Cx z l g (wC b) (rmd 1) cX5_isPeaceful 3 RX5 (some .boolean) := C
  refine x_wk (L' := [some (.ref ((wC b).2.2.2 + R)), some (.int p1), none]) (And.intro rfl (And.intro rfl trivial)) ?_
  rw [rv_isPeaceful]
  refine x_iconst C dX5_isPeaceful_0 (v := (0 : Int32)) (by decide) ?_
  refine x_istoren C dX5_isPeaceful_1 (L' := [some (.ref ((wC b).2.2.2 + R)), some (.int p1), some (.int (0 : Int32))]) (ltb rfl) rfl ?_
  refine x_wk (L' := [some (.ref ((wC b).2.2.2 + R)), some (.int p1), some (.int (0 : Int32))]) (And.intro rfl (And.intro rfl (And.intro rfl trivial))) (w_rv_isPeaceful_L2 C hR p1  M ?_ FU ((0 : Int32)) )
  refine x_iconst C dX5_isPeaceful_46 (v := (1 : Int32)) (by decide) ?_
  exact x_zret C dX5_isPeaceful_47 rfl rfl
def rv_addBeing (R : Nat) (p1 : Int32) (p2 : Int32) (p3 : Int32) (p4 : Int32) (M : Mem) : Option (Int32 × Mem) := (if (M R 1) < (10 : Int32) then chk (inb (M R 1) 10) (lt1 (wr M (R + 1) (M R 1).toNatClampNeg p1) fun M1 => chk (inb (M1 R 1) 10) (lt1 (wr M1 (R + 2) (M1 R 1).toNatClampNeg p2) fun M2 => chk (inb (M2 R 1) 10) (lt1 (wr M2 (R + 3) (M2 R 1).toNatClampNeg p3) fun M3 => (if p4 = 0 then lt1 (wr M3 R 5 ((M3 R 5) ||| (0 : Int32))) fun M4 => lt1 (wr M4 R 1 ((M4 R 1) + (1 : Int32))) fun M5 => some ((1 : Int32), M5) else lt1 (wr M3 R 5 ((M3 R 5) ||| ((1 : Int32) <<< ((M3 R 1) &&& 31)))) fun M6 => lt1 (wr M6 R 1 ((M6 R 1) + (1 : Int32))) fun M7 => some ((1 : Int32), M7))))) else some ((0 : Int32), M))
set_option maxHeartbeats 4000000 in
set_option maxRecDepth 20000 in
theorem c_rv_addBeing {l : Launch} {g : GG} {b : Nat} {R : Nat} (hR : isRiv R) (p1 : Int32) (p2 : Int32) (p3 : Int32) (p4 : Int32) (M : Mem) : CT l g (wC b) (rmd 1) yX5_addBeing cX5_addBeing 5 (some .boolean) [.ref ((wC b).2.2.2 + R), .int p1, .int p2, .int p3, .int p4] M finM (rv_addBeing R p1 p2 p3 p4 M) := by
  refine CT.of rfl (Nat.le_of_ble_eq_true rfl) (catc rfl (catc rfl (catc rfl (catc rfl (catc rfl cat0))))) (fun z C => ?_)
  have C : Cx z l g (wC b) (rmd 1) cX5_addBeing 5 RX5 (some .boolean) := C
  refine x_wk (L' := [some (.ref ((wC b).2.2.2 + R)), some (.int p1), some (.int p2), some (.int p3), some (.int p4)]) (And.intro rfl (And.intro rfl (And.intro rfl (And.intro rfl (And.intro rfl trivial))))) ?_
  rw [rv_addBeing]
  refine x_aloadn C dX5_addBeing_0 rfl ?_
  refine x_getI C fl_X5_15 cl_5 (nisRiv_0 hR) (kisRiv_0 hR) (fisRiv_1 hR) dX5_addBeing_1 ?_
  refine x_bipush C dX5_addBeing_4 (v := (10 : Int32)) (by decide) ?_
  refine x_icmplt C dX5_addBeing_6 (tgt := 11) (by decide) (fun _h => ?_) (fun _h => ?_)
  · refine x_aloadn C dX5_addBeing_11 rfl ?_
    refine x_getR C fl_X5_18 cl_5 (R + 1) (nisRiv_0 hR) (kisRiv_0 hR) (fisRiv_2 hR) dX5_addBeing_12 ?_
    refine x_aloadn C dX5_addBeing_15 rfl ?_
    refine x_getI C fl_X5_15 cl_5 (nisRiv_0 hR) (kisRiv_0 hR) (fisRiv_1 hR) dX5_addBeing_16 ?_
    refine x_iloadn C dX5_addBeing_19 (x := p1) rfl ?_
    refine x_iast C (nisRiv_1 hR) (kisRiv_1 hR) dX5_addBeing_20 ?_
    refine x_ltM (fun M1 => ?_)
    refine x_aloadn C dX5_addBeing_21 rfl ?_
    refine x_getR C fl_X5_22 cl_5 (R + 2) (nisRiv_0 hR) (kisRiv_0 hR) (fisRiv_3 hR) dX5_addBeing_22 ?_
    refine x_aloadn C dX5_addBeing_25 rfl ?_
    refine x_getI C fl_X5_15 cl_5 (nisRiv_0 hR) (kisRiv_0 hR) (fisRiv_1 hR) dX5_addBeing_26 ?_
    refine x_iloadn C dX5_addBeing_29 (x := p2) rfl ?_
    refine x_iast C (nisRiv_2 hR) (kisRiv_2 hR) dX5_addBeing_30 ?_
    refine x_ltM (fun M2 => ?_)
    refine x_aloadn C dX5_addBeing_31 rfl ?_
    refine x_getR C fl_X5_25 cl_5 (R + 3) (nisRiv_0 hR) (kisRiv_0 hR) (fisRiv_4 hR) dX5_addBeing_32 ?_
    refine x_aloadn C dX5_addBeing_35 rfl ?_
    refine x_getI C fl_X5_15 cl_5 (nisRiv_0 hR) (kisRiv_0 hR) (fisRiv_1 hR) dX5_addBeing_36 ?_
    refine x_iloadn C dX5_addBeing_39 (x := p3) rfl ?_
    refine x_iast C (nisRiv_3 hR) (kisRiv_3 hR) dX5_addBeing_40 ?_
    refine x_ltM (fun M3 => ?_)
    refine x_aloadn C dX5_addBeing_41 rfl ?_
    refine x_dup C dX5_addBeing_42 rfl ?_
    refine x_getI C fl_X5_28 cl_5 (nisRiv_0 hR) (kisRiv_0 hR) (fisRiv_5 hR) dX5_addBeing_43 ?_
    refine x_iload C dX5_addBeing_46 (x := p4) rfl ?_
    refine x_ifeq C dX5_addBeing_48 (tgt := 60) (by decide) (fun _h => ?_) (fun _h => ?_)
    · refine x_iconst C dX5_addBeing_60 (v := (0 : Int32)) (by decide) ?_
      refine x_ior C dX5_addBeing_61 ?_
      refine x_putI C fl_X5_28 cl_5 fint_5_5 (nisRiv_0 hR) (kisRiv_0 hR) (fisRiv_5 hR) dX5_addBeing_62 ?_
      refine x_ltM (fun M4 => ?_)
      refine x_aloadn C dX5_addBeing_65 rfl ?_
      refine x_dup C dX5_addBeing_66 rfl ?_
      refine x_getI C fl_X5_15 cl_5 (nisRiv_0 hR) (kisRiv_0 hR) (fisRiv_1 hR) dX5_addBeing_67 ?_
      refine x_iconst C dX5_addBeing_70 (v := (1 : Int32)) (by decide) ?_
      refine x_iadd C dX5_addBeing_71 ?_
      refine x_putI C fl_X5_15 cl_5 fint_5_1 (nisRiv_0 hR) (kisRiv_0 hR) (fisRiv_1 hR) dX5_addBeing_72 ?_
      refine x_ltM (fun M5 => ?_)
      refine x_iconst C dX5_addBeing_75 (v := (1 : Int32)) (by decide) ?_
      exact x_zret C dX5_addBeing_76 rfl rfl
    · refine x_iconst C dX5_addBeing_51 (v := (1 : Int32)) (by decide) ?_
      refine x_aloadn C dX5_addBeing_52 rfl ?_
      refine x_getI C fl_X5_15 cl_5 (nisRiv_0 hR) (kisRiv_0 hR) (fisRiv_1 hR) dX5_addBeing_53 ?_
      refine x_ishl C dX5_addBeing_56 ?_
      refine x_goto C dX5_addBeing_57 (tgt := 61) (by decide) ?_
      refine x_ior C dX5_addBeing_61 ?_
      refine x_putI C fl_X5_28 cl_5 fint_5_5 (nisRiv_0 hR) (kisRiv_0 hR) (fisRiv_5 hR) dX5_addBeing_62 ?_
      refine x_ltM (fun M6 => ?_)
      refine x_aloadn C dX5_addBeing_65 rfl ?_
      refine x_dup C dX5_addBeing_66 rfl ?_
      refine x_getI C fl_X5_15 cl_5 (nisRiv_0 hR) (kisRiv_0 hR) (fisRiv_1 hR) dX5_addBeing_67 ?_
      refine x_iconst C dX5_addBeing_70 (v := (1 : Int32)) (by decide) ?_
      refine x_iadd C dX5_addBeing_71 ?_
      refine x_putI C fl_X5_15 cl_5 fint_5_1 (nisRiv_0 hR) (kisRiv_0 hR) (fisRiv_1 hR) dX5_addBeing_72 ?_
      refine x_ltM (fun M7 => ?_)
      refine x_iconst C dX5_addBeing_75 (v := (1 : Int32)) (by decide) ?_
      exact x_zret C dX5_addBeing_76 rfl rfl
  · refine x_iconst C dX5_addBeing_9 (v := (0 : Int32)) (by decide) ?_
    exact x_zret C dX5_addBeing_10 rfl rfl
def rv_addApart (R : Nat) (p1 : Int32) (p2 : Int32) (M : Mem) : Option (Int32 × Mem) := (if (M R 10) < (12 : Int32) then chk (inb (M R 10) 12) (lt1 (wr M (R + 5) (M R 10).toNatClampNeg p1) fun M1 => chk (inb (M1 R 10) 12) (lt1 (wr M1 (R + 6) (M1 R 10).toNatClampNeg p2) fun M2 => lt1 (wr M2 R 10 ((M2 R 10) + (1 : Int32))) fun M3 => some ((1 : Int32), M3))) else some ((0 : Int32), M))
set_option maxHeartbeats 4000000 in
set_option maxRecDepth 20000 in
theorem c_rv_addApart {l : Launch} {g : GG} {b : Nat} {R : Nat} (hR : isRiv R) (p1 : Int32) (p2 : Int32) (M : Mem) : CT l g (wC b) (rmd 1) yX5_addApart cX5_addApart 3 (some .boolean) [.ref ((wC b).2.2.2 + R), .int p1, .int p2] M finM (rv_addApart R p1 p2 M) := by
  refine CT.of rfl (Nat.le_of_ble_eq_true rfl) (catc rfl (catc rfl (catc rfl cat0))) (fun z C => ?_)
  have C : Cx z l g (wC b) (rmd 1) cX5_addApart 3 RX5 (some .boolean) := C
  refine x_wk (L' := [some (.ref ((wC b).2.2.2 + R)), some (.int p1), some (.int p2)]) (And.intro rfl (And.intro rfl (And.intro rfl trivial))) ?_
  rw [rv_addApart]
  refine x_aloadn C dX5_addApart_0 rfl ?_
  refine x_getI C fl_X5_43 cl_5 (nisRiv_0 hR) (kisRiv_0 hR) (fisRiv_10 hR) dX5_addApart_1 ?_
  refine x_bipush C dX5_addApart_4 (v := (12 : Int32)) (by decide) ?_
  refine x_icmplt C dX5_addApart_6 (tgt := 11) (by decide) (fun _h => ?_) (fun _h => ?_)
  · refine x_aloadn C dX5_addApart_11 rfl ?_
    refine x_getR C fl_X5_46 cl_5 (R + 5) (nisRiv_0 hR) (kisRiv_0 hR) (fisRiv_11 hR) dX5_addApart_12 ?_
    refine x_aloadn C dX5_addApart_15 rfl ?_
    refine x_getI C fl_X5_43 cl_5 (nisRiv_0 hR) (kisRiv_0 hR) (fisRiv_10 hR) dX5_addApart_16 ?_
    refine x_iloadn C dX5_addApart_19 (x := p1) rfl ?_
    refine x_iast C (nisRiv_5 hR) (kisRiv_5 hR) dX5_addApart_20 ?_
    refine x_ltM (fun M1 => ?_)
    refine x_aloadn C dX5_addApart_21 rfl ?_
    refine x_getR C fl_X5_49 cl_5 (R + 6) (nisRiv_0 hR) (kisRiv_0 hR) (fisRiv_12 hR) dX5_addApart_22 ?_
    refine x_aloadn C dX5_addApart_25 rfl ?_
    refine x_getI C fl_X5_43 cl_5 (nisRiv_0 hR) (kisRiv_0 hR) (fisRiv_10 hR) dX5_addApart_26 ?_
    refine x_iloadn C dX5_addApart_29 (x := p2) rfl ?_
    refine x_iast C (nisRiv_6 hR) (kisRiv_6 hR) dX5_addApart_30 ?_
    refine x_ltM (fun M2 => ?_)
    refine x_aloadn C dX5_addApart_31 rfl ?_
    refine x_dup C dX5_addApart_32 rfl ?_
    refine x_getI C fl_X5_43 cl_5 (nisRiv_0 hR) (kisRiv_0 hR) (fisRiv_10 hR) dX5_addApart_33 ?_
    refine x_iconst C dX5_addApart_36 (v := (1 : Int32)) (by decide) ?_
    refine x_iadd C dX5_addApart_37 ?_
    refine x_putI C fl_X5_43 cl_5 fint_5_10 (nisRiv_0 hR) (kisRiv_0 hR) (fisRiv_10 hR) dX5_addApart_38 ?_
    refine x_ltM (fun M3 => ?_)
    refine x_iconst C dX5_addApart_41 (v := (1 : Int32)) (by decide) ?_
    exact x_zret C dX5_addApart_42 rfl rfl
  · refine x_iconst C dX5_addApart_9 (v := (0 : Int32)) (by decide) ?_
    exact x_zret C dX5_addApart_10 rfl rfl
def rv_addWith (R : Nat) (p1 : Int32) (p2 : Int32) (M : Mem) : Option (Int32 × Mem) := (if (M R 13) < (12 : Int32) then (rv_hasBeing R (p1) M).bind fun v1 => (if v1 = 0 then some ((0 : Int32), M) else chk (inb p1 10) (chk (inb p1 10) (lt1 (wr M (R + 7) p1.toNatClampNeg ((M (R + 7) p1.toNatClampNeg) ||| ((1 : Int32) <<< (p2 &&& 31)))) fun M2 => lt1 (wr M2 R 13 ((M2 R 13) + (1 : Int32))) fun M3 => some ((1 : Int32), M3)))) else some ((0 : Int32), M))
set_option maxHeartbeats 4000000 in
set_option maxRecDepth 20000 in
theorem c_rv_addWith {l : Launch} {g : GG} {b : Nat} {R : Nat} (hR : isRiv R) (p1 : Int32) (p2 : Int32) (M : Mem) : CT l g (wC b) (rmd 2) yX5_addWith cX5_addWith 3 (some .boolean) [.ref ((wC b).2.2.2 + R), .int p1, .int p2] M finM (rv_addWith R p1 p2 M) := by
  refine CT.of rfl (Nat.le_of_ble_eq_true rfl) (catc rfl (catc rfl (catc rfl cat0))) (fun z C => ?_)
  have C : Cx z l g (wC b) (rmd 2) cX5_addWith 3 RX5 (some .boolean) := C
  refine x_wk (L' := [some (.ref ((wC b).2.2.2 + R)), some (.int p1), some (.int p2)]) (And.intro rfl (And.intro rfl (And.intro rfl trivial))) ?_
  rw [rv_addWith]
  refine x_aloadn C dX5_addWith_0 rfl ?_
  refine x_getI C fl_X5_52 cl_5 (nisRiv_0 hR) (kisRiv_0 hR) (fisRiv_13 hR) dX5_addWith_1 ?_
  refine x_bipush C dX5_addWith_4 (v := (12 : Int32)) (by decide) ?_
  refine x_icmpge C dX5_addWith_6 (tgt := 17) (by decide) (fun _h => ?_) (fun _h => ?_)
  · refine x_iconst C dX5_addWith_17 (v := (0 : Int32)) (by decide) ?_
    exact x_zret C dX5_addWith_18 rfl rfl
  · refine x_aloadn C dX5_addWith_9 rfl ?_
    refine x_iloadn C dX5_addWith_10 (x := p1) rfl ?_
    refine x_Vi (st := []) C (c_rv_hasBeing hR (p1) M) lk_X5_70 (nisRiv_0 hR) (kisRiv_0 hR) ⟨_, _, rfl⟩ rfl rfl (Nat.le_of_ble_eq_true rfl) (rmok_d (by decide) (by decide)) ⟨Nat.zero_le _, Nat.zero_le _⟩ dX5_addWith_11 (fun v1 => ?_)
    refine x_ifne C dX5_addWith_14 (tgt := 19) (by decide) (fun _h => ?_) (fun _h => ?_)
    · refine x_aloadn C dX5_addWith_19 rfl ?_
      refine x_getR C fl_X5_55 cl_5 (R + 7) (nisRiv_0 hR) (kisRiv_0 hR) (fisRiv_14 hR) dX5_addWith_20 ?_
      refine x_iloadn C dX5_addWith_23 (x := p1) rfl ?_
      refine x_dup2 C dX5_addWith_24 rfl rfl ?_
      refine x_iald C (nisRiv_7 hR) (kisRiv_7 hR) dX5_addWith_25 ?_
      refine x_iconst C dX5_addWith_26 (v := (1 : Int32)) (by decide) ?_
      refine x_iloadn C dX5_addWith_27 (x := p2) rfl ?_
      refine x_ishl C dX5_addWith_28 ?_
      refine x_ior C dX5_addWith_29 ?_
      refine x_iast C (nisRiv_7 hR) (kisRiv_7 hR) dX5_addWith_30 ?_
      refine x_ltM (fun M2 => ?_)
      refine x_aloadn C dX5_addWith_31 rfl ?_
      refine x_dup C dX5_addWith_32 rfl ?_
      refine x_getI C fl_X5_52 cl_5 (nisRiv_0 hR) (kisRiv_0 hR) (fisRiv_13 hR) dX5_addWith_33 ?_
      refine x_iconst C dX5_addWith_36 (v := (1 : Int32)) (by decide) ?_
      refine x_iadd C dX5_addWith_37 ?_
      refine x_putI C fl_X5_52 cl_5 fint_5_13 (nisRiv_0 hR) (kisRiv_0 hR) (fisRiv_13 hR) dX5_addWith_38 ?_
      refine x_ltM (fun M3 => ?_)
      refine x_iconst C dX5_addWith_41 (v := (1 : Int32)) (by decide) ?_
      exact x_zret C dX5_addWith_42 rfl rfl
    · refine x_iconst C dX5_addWith_17 (v := (0 : Int32)) (by decide) ?_
      exact x_zret C dX5_addWith_18 rfl rfl
def rv_setStream_L6 (R : Nat) (p1 : Int32) (p2 : Int32) (K : Mem → Option Mem) : Nat → Int32 → Mem → Option Mem
  | 0, _, _ => none
  | fu + 1, x3, M => (if x3 < (24 : Int32) then chk (inb x3 24) (lt1 (wr M (R + 4) x3.toNatClampNeg p2) fun M1 => rv_setStream_L6 R p1 p2 K fu ((x3 + (1 : Int32))) (M1)) else K (M))
def rv_setStream (R : Nat) (p1 : Int32) (p2 : Int32) (M : Mem) : Option Mem := rv_setStream_L6 R p1 p2 (fun M3 => some M3) FU ((imax p1 (0 : Int32))) M
set_option maxHeartbeats 4000000 in
set_option maxRecDepth 20000 in
theorem w_rv_setStream_L6 {z : ZT} {l : Launch} {g : GG} {b : Nat} {R : Nat} (C : Cx z l g (wC b) (rmd 2) cX5_setStream 4 RX5 none) (hR : isRiv R) (p1 : Int32) (p2 : Int32) {K : Mem → Option Mem} (hK : ∀ (M : Mem) , XG z g (wC b) 4 (ZQ z g (wC b) finV) 0 0 25 [none, none, none, none] [] M (K M)) : ∀ (fu : Nat) (x3 : Int32) (M : Mem), XG z g (wC b) 4 (ZQ z g (wC b) finV) 0 0 6 [some (.ref ((wC b).2.2.2 + R)), none, some (.int p2), some (.int x3)] [] M (rv_setStream_L6 R p1 p2 K fu x3 M) := by
  intro fu
  induction fu with
  | zero => intro x3 M; exact x_none
  | succ fu ih =>
    intro x3 M
    rw [rv_setStream_L6]
    refine x_iloadn C dX5_setStream_6 (x := x3) rfl ?_
    refine x_bipush C dX5_setStream_7 (v := (24 : Int32)) (by decide) ?_
    refine x_icmpge C dX5_setStream_9 (tgt := 25) (by decide) (fun _h => ?_) (fun _h => ?_)
    · exact x_wk (L' := [none, none, none, none]) (trivial) (hK (M))
    · refine x_aloadn C dX5_setStream_12 rfl ?_
      refine x_getR C fl_X5_40 cl_5 (R + 4) (nisRiv_0 hR) (kisRiv_0 hR) (fisRiv_9 hR) dX5_setStream_13 ?_
      refine x_iloadn C dX5_setStream_16 (x := x3) rfl ?_
      refine x_iloadn C dX5_setStream_17 (x := p2) rfl ?_
      refine x_iast C (nisRiv_4 hR) (kisRiv_4 hR) dX5_setStream_18 ?_
      refine x_ltM (fun M1 => ?_)
      refine x_iinc C dX5_setStream_19 (v := (x3 + (1 : Int32))) rfl rfl (L' := [some (.ref ((wC b).2.2.2 + R)), none, some (.int p2), some (.int (x3 + (1 : Int32)))]) rfl ?_
      refine x_goto C dX5_setStream_22 (tgt := 6) (by decide) ?_
      exact x_wk (L' := [some (.ref ((wC b).2.2.2 + R)), none, some (.int p2), some (.int (x3 + (1 : Int32)))]) (And.intro rfl (And.intro rfl (And.intro rfl trivial))) (ih ((x3 + (1 : Int32))) (M1))
set_option maxHeartbeats 4000000 in
set_option maxRecDepth 20000 in
theorem c_rv_setStream {l : Launch} {g : GG} {b : Nat} {R : Nat} (hR : isRiv R) (p1 : Int32) (p2 : Int32) (M : Mem) : CT l g (wC b) (rmd 2) yX5_setStream cX5_setStream 4 none [.ref ((wC b).2.2.2 + R), .int p1, .int p2] M finV (rv_setStream R p1 p2 M) := by
  refine CT.of rfl (Nat.le_of_ble_eq_true rfl) (catc rfl (catc rfl (catc rfl cat0))) (fun z C => ?_)
  have C : Cx z l g (wC b) (rmd 2) cX5_setStream 4 RX5 none := C
  refine x_wk (L' := [some (.ref ((wC b).2.2.2 + R)), some (.int p1), some (.int p2), none]) (And.intro rfl (And.intro rfl (And.intro rfl trivial))) ?_
  rw [rv_setStream]
  refine x_iloadn C dX5_setStream_0 (x := p1) rfl ?_
  refine x_iconst C dX5_setStream_1 (v := (0 : Int32)) (by decide) ?_
  refine x_max C lm_X5_74 (Nat.le_of_ble_eq_true rfl) ⟨by decide, by decide⟩ ⟨Nat.zero_le _, Nat.zero_le _⟩ dX5_setStream_2 ?_
  refine x_istoren C dX5_setStream_5 (L' := [some (.ref ((wC b).2.2.2 + R)), some (.int p1), some (.int p2), some (.int (imax p1 (0 : Int32)))]) (ltb rfl) rfl ?_
  refine x_wk (L' := [some (.ref ((wC b).2.2.2 + R)), none, some (.int p2), some (.int (imax p1 (0 : Int32)))]) (And.intro rfl (And.intro rfl (And.intro rfl trivial))) (w_rv_setStream_L6 C hR p1 p2   (fun M3 => ?_) FU ((imax p1 (0 : Int32))) M)
  exact x_vret C dX5_setStream_25 rfl
