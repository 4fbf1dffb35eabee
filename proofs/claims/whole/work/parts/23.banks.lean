def bk_copyFrom_L57 (R : Nat) (Q : Nat) (K : Mem → Option Mem) : Nat → Int32 → Mem → Option Mem
  | 0, _, _ => none
  | fu + 1, x2, M => (if x2 < (10 : Int32) then chk (inb x2 10) (chk (inb x2 10) (lt1 (cpy M (Q + 2 + 1 + x2.toNatClampNeg) (R + 2 + 1 + x2.toNatClampNeg) 10) fun M9 => bk_copyFrom_L57 R Q K fu ((x2 + (1 : Int32))) (M9))) else K (M))
def bk_copyFrom (R : Nat) (Q : Nat) (M : Mem) : Option Mem := lt1 (wr M R 0 (M Q 0)) fun M1 => lt1 (wr M1 R 1 (M1 Q 1)) fun M2 => lt1 (wr M2 R 2 (M2 Q 2)) fun M3 => lt1 (wr M3 R 3 (M3 Q 3)) fun M4 => lt1 (wr M4 R 4 (M4 Q 4)) fun M5 => lt1 (cpy M5 (Q + 1) (R + 1) 10) fun M6 => bk_copyFrom_L57 R Q (fun M11 => some M11) FU ((0 : Int32)) M6
set_option maxHeartbeats 4000000 in
set_option maxRecDepth 20000 in
theorem w_bk_copyFrom_L57 {z : ZT} {l : Launch} {g : GG} {b : Nat} {R : Nat} {Q : Nat} (C : Cx z l g (wC b) (rmd 1) cX0_copyFrom 3 RX0 none) (hR : isBnk R) (hQ : isBnk Q)  {K : Mem → Option Mem} (hK : ∀ (M : Mem) , XG z g (wC b) 3 (ZQ z g (wC b) finV) 0 0 88 [none, none, none] [] M (K M)) : ∀ (fu : Nat) (x2 : Int32) (M : Mem), XG z g (wC b) 3 (ZQ z g (wC b) finV) 0 0 57 [some (.ref ((wC b).2.2.2 + R)), some (.ref ((wC b).2.2.2 + Q)), some (.int x2)] [] M (bk_copyFrom_L57 R Q K fu x2 M) := by
  intro fu
  induction fu with
  | zero => intro x2 M; exact x_none
  | succ fu ih =>
    intro x2 M
    rw [bk_copyFrom_L57]
    refine x_iloadn C dX0_copyFrom_57 (x := x2) rfl ?_
    refine x_bipush C dX0_copyFrom_58 (v := (10 : Int32)) (by decide) ?_
    refine x_icmpge C dX0_copyFrom_60 (tgt := 88) (by decide) (fun _h => ?_) (fun _h => ?_)
    · exact x_wk (L' := [none, none, none]) (trivial) (hK (M))
    · refine x_aloadn C dX0_copyFrom_63 rfl ?_
      refine x_getR C fl_X0_33 cl_0 (Q + 2) (nisBnk_0 hQ) (kisBnk_0 hQ) (fisBnk_6 hQ) dX0_copyFrom_64 ?_
      refine x_iloadn C dX0_copyFrom_67 (x := x2) rfl ?_
      refine x_rald C (nisBnk_2 hQ) (kisBnk_2 hQ) dX0_copyFrom_68 (fun hi7 => ?_)
      refine x_iconst C dX0_copyFrom_69 (v := (0 : Int32)) (by decide) ?_
      refine x_aloadn C dX0_copyFrom_70 rfl ?_
      refine x_getR C fl_X0_33 cl_0 (R + 2) (nisBnk_0 hR) (kisBnk_0 hR) (fisBnk_6 hR) dX0_copyFrom_71 ?_
      refine x_iloadn C dX0_copyFrom_74 (x := x2) rfl ?_
      refine x_rald C (nisBnk_2 hR) (kisBnk_2 hR) dX0_copyFrom_75 (fun hi8 => ?_)
      refine x_iconst C dX0_copyFrom_76 (v := (0 : Int32)) (by decide) ?_
      refine x_bipush C dX0_copyFrom_77 (v := (10 : Int32)) (by decide) ?_
      refine x_copy C ly_X0_39 (Nat.le_of_ble_eq_true rfl) ⟨by decide, by decide⟩ (nRow hQ hi7) (kRow hQ hi7) (nRow hR hi8) (kRow hR hi8) (by decide) (mn := 10) (by decide) (by decide) (by decide) dX0_copyFrom_79 ?_
      refine x_ltM (fun M9 => ?_)
      refine x_iinc C dX0_copyFrom_82 (v := (x2 + (1 : Int32))) rfl rfl (L' := [some (.ref ((wC b).2.2.2 + R)), some (.ref ((wC b).2.2.2 + Q)), some (.int (x2 + (1 : Int32)))]) rfl ?_
      refine x_goto C dX0_copyFrom_85 (tgt := 57) (by decide) ?_
      exact x_wk (L' := [some (.ref ((wC b).2.2.2 + R)), some (.ref ((wC b).2.2.2 + Q)), some (.int (x2 + (1 : Int32)))]) (And.intro rfl (And.intro rfl (And.intro rfl trivial))) (ih ((x2 + (1 : Int32))) (M9))
set_option maxHeartbeats 4000000 in
set_option maxRecDepth 20000 in
theorem c_bk_copyFrom {l : Launch} {g : GG} {b : Nat} {R : Nat} {Q : Nat} (hR : isBnk R) (hQ : isBnk Q) (M : Mem) : CT l g (wC b) (rmd 1) yX0_copyFrom cX0_copyFrom 3 none [.ref ((wC b).2.2.2 + R), .ref ((wC b).2.2.2 + Q)] M finV (bk_copyFrom R Q M) := by
  refine CT.of rfl (Nat.le_of_ble_eq_true rfl) (catc rfl (catc rfl cat0)) (fun z C => ?_)
  have C : Cx z l g (wC b) (rmd 1) cX0_copyFrom 3 RX0 none := C
  refine x_wk (L' := [some (.ref ((wC b).2.2.2 + R)), some (.ref ((wC b).2.2.2 + Q)), none]) (And.intro rfl (And.intro rfl trivial)) ?_
  rw [bk_copyFrom]
  refine x_aloadn C dX0_copyFrom_0 rfl ?_
  refine x_aloadn C dX0_copyFrom_1 rfl ?_
  refine x_getI C fl_X0_9 cl_0 (nisBnk_0 hQ) (kisBnk_0 hQ) (fisBnk_0 hQ) dX0_copyFrom_2 ?_
  refine x_putI C fl_X0_9 cl_0 fint_0_0 (nisBnk_0 hR) (kisBnk_0 hR) (fisBnk_0 hR) dX0_copyFrom_5 ?_
  refine x_ltM (fun M1 => ?_)
  refine x_aloadn C dX0_copyFrom_8 rfl ?_
  refine x_aloadn C dX0_copyFrom_9 rfl ?_
  refine x_getI C fl_X0_15 cl_0 (nisBnk_0 hQ) (kisBnk_0 hQ) (fisBnk_1 hQ) dX0_copyFrom_10 ?_
  refine x_putI C fl_X0_15 cl_0 fint_0_1 (nisBnk_0 hR) (kisBnk_0 hR) (fisBnk_1 hR) dX0_copyFrom_13 ?_
  refine x_ltM (fun M2 => ?_)
  refine x_aloadn C dX0_copyFrom_16 rfl ?_
  refine x_aloadn C dX0_copyFrom_17 rfl ?_
  refine x_getI C fl_X0_18 cl_0 (nisBnk_0 hQ) (kisBnk_0 hQ) (fisBnk_2 hQ) dX0_copyFrom_18 ?_
  refine x_putI C fl_X0_18 cl_0 fint_0_2 (nisBnk_0 hR) (kisBnk_0 hR) (fisBnk_2 hR) dX0_copyFrom_21 ?_
  refine x_ltM (fun M3 => ?_)
  refine x_aloadn C dX0_copyFrom_24 rfl ?_
  refine x_aloadn C dX0_copyFrom_25 rfl ?_
  refine x_getI C fl_X0_21 cl_0 (nisBnk_0 hQ) (kisBnk_0 hQ) (fisBnk_3 hQ) dX0_copyFrom_26 ?_
  refine x_putI C fl_X0_21 cl_0 fint_0_3 (nisBnk_0 hR) (kisBnk_0 hR) (fisBnk_3 hR) dX0_copyFrom_29 ?_
  refine x_ltM (fun M4 => ?_)
  refine x_aloadn C dX0_copyFrom_32 rfl ?_
  refine x_aloadn C dX0_copyFrom_33 rfl ?_
  refine x_getI C fl_X0_24 cl_0 (nisBnk_0 hQ) (kisBnk_0 hQ) (fisBnk_4 hQ) dX0_copyFrom_34 ?_
  refine x_putI C fl_X0_24 cl_0 fint_0_4 (nisBnk_0 hR) (kisBnk_0 hR) (fisBnk_4 hR) dX0_copyFrom_37 ?_
  refine x_ltM (fun M5 => ?_)
  refine x_aloadn C dX0_copyFrom_40 rfl ?_
  refine x_getR C fl_X0_27 cl_0 (Q + 1) (nisBnk_0 hQ) (kisBnk_0 hQ) (fisBnk_5 hQ) dX0_copyFrom_41 ?_
  refine x_iconst C dX0_copyFrom_44 (v := (0 : Int32)) (by decide) ?_
  refine x_aloadn C dX0_copyFrom_45 rfl ?_
  refine x_getR C fl_X0_27 cl_0 (R + 1) (nisBnk_0 hR) (kisBnk_0 hR) (fisBnk_5 hR) dX0_copyFrom_46 ?_
  refine x_iconst C dX0_copyFrom_49 (v := (0 : Int32)) (by decide) ?_
  refine x_bipush C dX0_copyFrom_50 (v := (10 : Int32)) (by decide) ?_
  refine x_copy C ly_X0_39 (Nat.le_of_ble_eq_true rfl) ⟨by decide, by decide⟩ (nisBnk_1 hQ) (kisBnk_1 hQ) (nisBnk_1 hR) (kisBnk_1 hR) (by decide) (mn := 10) (by decide) (by decide) (by decide) dX0_copyFrom_52 ?_
  refine x_ltM (fun M6 => ?_)
  refine x_iconst C dX0_copyFrom_55 (v := (0 : Int32)) (by decide) ?_
  refine x_istoren C dX0_copyFrom_56 (L' := [some (.ref ((wC b).2.2.2 + R)), some (.ref ((wC b).2.2.2 + Q)), some (.int (0 : Int32))]) (ltb rfl) rfl ?_
  refine x_wk (L' := [some (.ref ((wC b).2.2.2 + R)), some (.ref ((wC b).2.2.2 + Q)), some (.int (0 : Int32))]) (And.intro rfl (And.intro rfl (And.intro rfl trivial))) (w_bk_copyFrom_L57 C hR hQ    (fun M11 => ?_) FU ((0 : Int32)) M6)
  exact x_vret C dX0_copyFrom_88 rfl
def bk_state (R : Nat) (M : Mem) : Option Int32 := some ((((M R 0) <<< ((1 : Int32) &&& 31)) ||| (M R 1)))
set_option maxHeartbeats 4000000 in
set_option maxRecDepth 20000 in
theorem c_bk_state {l : Launch} {g : GG} {b : Nat} {R : Nat} (hR : isBnk R) (M : Mem) : CT l g (wC b) (rmd 1) yX0_state cX0_state 1 (some .int) [.ref ((wC b).2.2.2 + R)] M (finI M) (bk_state R M) := by
  refine CT.of rfl (Nat.le_of_ble_eq_true rfl) (catc rfl cat0) (fun z C => ?_)
  have C : Cx z l g (wC b) (rmd 1) cX0_state 1 RX0 (some .int) := C
  refine x_wk (L' := [some (.ref ((wC b).2.2.2 + R))]) (And.intro rfl trivial) ?_
  rw [bk_state]
  refine x_aloadn C dX0_state_0 rfl ?_
  refine x_getI C fl_X0_9 cl_0 (nisBnk_0 hR) (kisBnk_0 hR) (fisBnk_0 hR) dX0_state_1 ?_
  refine x_iconst C dX0_state_4 (v := (1 : Int32)) (by decide) ?_
  refine x_ishl C dX0_state_5 ?_
  refine x_aloadn C dX0_state_6 rfl ?_
  refine x_getI C fl_X0_15 cl_0 (nisBnk_0 hR) (kisBnk_0 hR) (fisBnk_1 hR) dX0_state_7 ?_
  refine x_ior C dX0_state_10 ?_
  exact x_iret C dX0_state_11 rfl
def bk_hour (R : Nat) (M : Mem) : Option Int32 := (jm_floorMod (((M R 2) / (60 : Int32))) ((24 : Int32)) M).bind fun v1 => some (v1)
set_option maxHeartbeats 4000000 in
set_option maxRecDepth 20000 in
theorem c_bk_hour {l : Launch} {g : GG} {b : Nat} {R : Nat} (hR : isBnk R) (M : Mem) : CT l g (wC b) (rmd 2) yX0_hour cX0_hour 1 (some .int) [.ref ((wC b).2.2.2 + R)] M (finI M) (bk_hour R M) := by
  refine CT.of rfl (Nat.le_of_ble_eq_true rfl) (catc rfl cat0) (fun z C => ?_)
  have C : Cx z l g (wC b) (rmd 2) cX0_hour 1 RX0 (some .int) := C
  refine x_wk (L' := [some (.ref ((wC b).2.2.2 + R))]) (And.intro rfl trivial) ?_
  rw [bk_hour]
  refine x_aloadn C dX0_hour_0 rfl ?_
  refine x_getI C fl_X0_18 cl_0 (nisBnk_0 hR) (kisBnk_0 hR) (fisBnk_2 hR) dX0_hour_1 ?_
  refine x_bipush C dX0_hour_4 (v := (60 : Int32)) (by decide) ?_
  refine x_idiv C dX0_hour_6 (by decide) ?_
  refine x_bipush C dX0_hour_7 (v := (24 : Int32)) (by decide) ?_
  refine x_Si (st := []) C (c_jm_floorMod  (((M R 2) / (60 : Int32))) ((24 : Int32)) M) lk_X0_47 rfl rfl (Nat.le_of_ble_eq_true rfl) (rmok_d (by decide) (by decide)) ⟨Nat.zero_le _, Nat.zero_le _⟩ dX0_hour_9 (fun v1 => ?_)
  exact x_iret C dX0_hour_12 rfl
def bk_forceOf (R : Nat) (p1 : Int32) (Q : Nat) (M : Mem) : Option Int32 := chk (inb p1 10) (chk (inb p1 10) (some ((imax (0 : Int32) ((M (Q + 2) p1.toNatClampNeg) - (M (R + 1) p1.toNatClampNeg))))))
set_option maxHeartbeats 4000000 in
set_option maxRecDepth 20000 in
theorem c_bk_forceOf {l : Launch} {g : GG} {b : Nat} {R : Nat} {Q : Nat} (hR : isBnk R) (hQ : isRiv Q) (p1 : Int32) (M : Mem) : CT l g (wC b) (rmd 2) yX0_forceOf cX0_forceOf 3 (some .int) [.ref ((wC b).2.2.2 + R), .int p1, .ref ((wC b).2.2.2 + Q)] M (finI M) (bk_forceOf R p1 Q M) := by
  refine CT.of rfl (Nat.le_of_ble_eq_true rfl) (catc rfl (catc rfl (catc rfl cat0))) (fun z C => ?_)
  have C : Cx z l g (wC b) (rmd 2) cX0_forceOf 3 RX0 (some .int) := C
  refine x_wk (L' := [some (.ref ((wC b).2.2.2 + R)), some (.int p1), some (.ref ((wC b).2.2.2 + Q))]) (And.intro rfl (And.intro rfl (And.intro rfl trivial))) ?_
  rw [bk_forceOf]
  refine x_iconst C dX0_forceOf_0 (v := (0 : Int32)) (by decide) ?_
  refine x_aloadn C dX0_forceOf_1 rfl ?_
  refine x_getR C fl_X0_53 cl_5 (Q + 2) (nisRiv_0 hQ) (kisRiv_0 hQ) (fisRiv_3 hQ) dX0_forceOf_2 ?_
  refine x_iloadn C dX0_forceOf_5 (x := p1) rfl ?_
  refine x_iald C (nisRiv_2 hQ) (kisRiv_2 hQ) dX0_forceOf_6 ?_
  refine x_aloadn C dX0_forceOf_7 rfl ?_
  refine x_getR C fl_X0_27 cl_0 (R + 1) (nisBnk_0 hR) (kisBnk_0 hR) (fisBnk_5 hR) dX0_forceOf_8 ?_
  refine x_iloadn C dX0_forceOf_11 (x := p1) rfl ?_
  refine x_iald C (nisBnk_1 hR) (kisBnk_1 hR) dX0_forceOf_12 ?_
  refine x_isub C dX0_forceOf_13 ?_
  refine x_max C lm_X0_56 (Nat.le_of_ble_eq_true rfl) ⟨by decide, by decide⟩ ⟨Nat.zero_le _, Nat.zero_le _⟩ dX0_forceOf_14 ?_
  exact x_iret C dX0_forceOf_17 rfl
def bk_notePulls_L2 (R : Nat) (p1 : Int32) (p2 : Int32) (K : Mem → Option Mem) : Nat → Int32 → Mem → Option Mem
  | 0, _, _ => none
  | fu + 1, x3, M => (if x3 < (10 : Int32) then chk (inb x3 10) (chk (inb p2 10) (chk (inb p2 10) (lt1 (wr M (R + 2 + 1 + x3.toNatClampNeg) p2.toNatClampNeg ((M (R + 2 + 1 + x3.toNatClampNeg) p2.toNatClampNeg) + ((p1 >>> (x3 &&& 31)) &&& (1 : Int32)))) fun M2 => bk_notePulls_L2 R p1 p2 K fu ((x3 + (1 : Int32))) (M2)))) else K (M))
def bk_notePulls (R : Nat) (p1 : Int32) (p2 : Int32) (M : Mem) : Option Mem := bk_notePulls_L2 R p1 p2 (fun M4 => some M4) FU ((0 : Int32)) M
set_option maxHeartbeats 4000000 in
set_option maxRecDepth 20000 in
theorem w_bk_notePulls_L2 {z : ZT} {l : Launch} {g : GG} {b : Nat} {R : Nat} (C : Cx z l g (wC b) (rmd 1) cX0_notePulls 4 RX0 none) (hR : isBnk R) (p1 : Int32) (p2 : Int32) {K : Mem → Option Mem} (hK : ∀ (M : Mem) , XG z g (wC b) 4 (ZQ z g (wC b) finV) 0 0 30 [none, none, none, none] [] M (K M)) : ∀ (fu : Nat) (x3 : Int32) (M : Mem), XG z g (wC b) 4 (ZQ z g (wC b) finV) 0 0 2 [some (.ref ((wC b).2.2.2 + R)), some (.int p1), some (.int p2), some (.int x3)] [] M (bk_notePulls_L2 R p1 p2 K fu x3 M) := by
  intro fu
  induction fu with
  | zero => intro x3 M; exact x_none
  | succ fu ih =>
    intro x3 M
    rw [bk_notePulls_L2]
    refine x_iloadn C dX0_notePulls_2 (x := x3) rfl ?_
    refine x_bipush C dX0_notePulls_3 (v := (10 : Int32)) (by decide) ?_
    refine x_icmpge C dX0_notePulls_5 (tgt := 30) (by decide) (fun _h => ?_) (fun _h => ?_)
    · exact x_wk (L' := [none, none, none, none]) (trivial) (hK (M))
    · refine x_aloadn C dX0_notePulls_8 rfl ?_
      refine x_getR C fl_X0_33 cl_0 (R + 2) (nisBnk_0 hR) (kisBnk_0 hR) (fisBnk_6 hR) dX0_notePulls_9 ?_
      refine x_iloadn C dX0_notePulls_12 (x := x3) rfl ?_
      refine x_rald C (nisBnk_2 hR) (kisBnk_2 hR) dX0_notePulls_13 (fun hi1 => ?_)
      refine x_iloadn C dX0_notePulls_14 (x := p2) rfl ?_
      refine x_dup2 C dX0_notePulls_15 rfl rfl ?_
      refine x_iald C (nRow hR hi1) (kRow hR hi1) dX0_notePulls_16 ?_
      refine x_iloadn C dX0_notePulls_17 (x := p1) rfl ?_
      refine x_iloadn C dX0_notePulls_18 (x := x3) rfl ?_
      refine x_ishr C dX0_notePulls_19 ?_
      refine x_iconst C dX0_notePulls_20 (v := (1 : Int32)) (by decide) ?_
      refine x_iand C dX0_notePulls_21 ?_
      refine x_iadd C dX0_notePulls_22 ?_
      refine x_iast C (nRow hR hi1) (kRow hR hi1) dX0_notePulls_23 ?_
      refine x_ltM (fun M2 => ?_)
      refine x_iinc C dX0_notePulls_24 (v := (x3 + (1 : Int32))) rfl rfl (L' := [some (.ref ((wC b).2.2.2 + R)), some (.int p1), some (.int p2), some (.int (x3 + (1 : Int32)))]) rfl ?_
      refine x_goto C dX0_notePulls_27 (tgt := 2) (by decide) ?_
      exact x_wk (L' := [some (.ref ((wC b).2.2.2 + R)), some (.int p1), some (.int p2), some (.int (x3 + (1 : Int32)))]) (And.intro rfl (And.intro rfl (And.intro rfl (And.intro rfl trivial)))) (ih ((x3 + (1 : Int32))) (M2))
set_option maxHeartbeats 4000000 in
set_option maxRecDepth 20000 in
theorem c_bk_notePulls {l : Launch} {g : GG} {b : Nat} {R : Nat} (hR : isBnk R) (p1 : Int32) (p2 : Int32) (M : Mem) : CT l g (wC b) (rmd 1) yX0_notePulls cX0_notePulls 4 none [.ref ((wC b).2.2.2 + R), .int p1, .int p2] M finV (bk_notePulls R p1 p2 M) := by
  refine CT.of rfl (Nat.le_of_ble_eq_true rfl) (catc rfl (catc rfl (catc rfl cat0))) (fun z C => ?_)
  have C : Cx z l g (wC b) (rmd 1) cX0_notePulls 4 RX0 none := C
  refine x_wk (L' := [some (.ref ((wC b).2.2.2 + R)), some (.int p1), some (.int p2), none]) (And.intro rfl (And.intro rfl (And.intro rfl trivial))) ?_
  rw [bk_notePulls]
  refine x_iconst C dX0_notePulls_0 (v := (0 : Int32)) (by decide) ?_
  refine x_istoren C dX0_notePulls_1 (L' := [some (.ref ((wC b).2.2.2 + R)), some (.int p1), some (.int p2), some (.int (0 : Int32))]) (ltb rfl) rfl ?_
  refine x_wk (L' := [some (.ref ((wC b).2.2.2 + R)), some (.int p1), some (.int p2), some (.int (0 : Int32))]) (And.intro rfl (And.intro rfl (And.intro rfl (And.intro rfl trivial)))) (w_bk_notePulls_L2 C hR p1 p2   (fun M4 => ?_) FU ((0 : Int32)) M)
  exact x_vret C dX0_notePulls_30 rfl
def bk_noteCrossing_L33 (R : Nat) (p1 : Int32) (p2 : Int32) (p3 : Int32) (K : Mem → Option Mem) : Nat → Int32 → Mem → Option Mem
  | 0, _, _ => none
  | fu + 1, x4, M => (if x4 < (10 : Int32) then (if ((p2 >>> (x4 &&& 31)) &&& (1 : Int32)) = 0 then bk_noteCrossing_L33 R p1 p2 p3 K fu ((x4 + (1 : Int32))) (M) else chk (inb x4 10) (chk (inb x4 10) (lt1 (wr M (R + 1) x4.toNatClampNeg ((M (R + 1) x4.toNatClampNeg) + (1 : Int32))) fun M4 => (bk_notePulls R ((p1 &&& p3)) (x4) M4).bind fun M5 => bk_noteCrossing_L33 R p1 p2 p3 K fu ((x4 + (1 : Int32))) (M5)))) else K (M))
def bk_noteCrossing (R : Nat) (p1 : Int32) (p2 : Int32) (p3 : Int32) (M : Mem) : Option Mem := lt1 (wr M R 0 ((M R 0) ^^^ p1)) fun M1 => lt1 (wr M1 R 1 ((M1 R 1) ^^^ (1 : Int32))) fun M2 => lt1 (wr M2 R 3 ((M2 R 3) + (1 : Int32))) fun M3 => bk_noteCrossing_L33 R p1 p2 p3 (fun M7 => some M7) FU ((0 : Int32)) M3
set_option maxHeartbeats 4000000 in
set_option maxRecDepth 20000 in
theorem w_bk_noteCrossing_L33 {z : ZT} {l : Launch} {g : GG} {b : Nat} {R : Nat} (C : Cx z l g (wC b) (rmd 2) cX0_noteCrossing 5 RX0 none) (hR : isBnk R) (p1 : Int32) (p2 : Int32) (p3 : Int32) {K : Mem → Option Mem} (hK : ∀ (M : Mem) , XG z g (wC b) 5 (ZQ z g (wC b) finV) 0 0 75 [none, none, none, none, none] [] M (K M)) : ∀ (fu : Nat) (x4 : Int32) (M : Mem), XG z g (wC b) 5 (ZQ z g (wC b) finV) 0 0 33 [some (.ref ((wC b).2.2.2 + R)), some (.int p1), some (.int p2), some (.int p3), some (.int x4)] [] M (bk_noteCrossing_L33 R p1 p2 p3 K fu x4 M) := by
  intro fu
  induction fu with
  | zero => intro x4 M; exact x_none
  | succ fu ih =>
    intro x4 M
    rw [bk_noteCrossing_L33]
    refine x_iload C dX0_noteCrossing_33 (x := x4) rfl ?_
    refine x_bipush C dX0_noteCrossing_35 (v := (10 : Int32)) (by decide) ?_
    refine x_icmpge C dX0_noteCrossing_37 (tgt := 75) (by decide) (fun _h => ?_) (fun _h => ?_)
    · exact x_wk (L' := [none, none, none, none, none]) (trivial) (hK (M))
    · refine x_iloadn C dX0_noteCrossing_40 (x := p2) rfl ?_
      refine x_iload C dX0_noteCrossing_41 (x := x4) rfl ?_
      refine x_ishr C dX0_noteCrossing_43 ?_
      refine x_iconst C dX0_noteCrossing_44 (v := (1 : Int32)) (by decide) ?_
      refine x_iand C dX0_noteCrossing_45 ?_
      refine x_ifeq C dX0_noteCrossing_46 (tgt := 69) (by decide) (fun _h => ?_) (fun _h => ?_)
      · refine x_iinc C dX0_noteCrossing_69 (v := (x4 + (1 : Int32))) rfl rfl (L' := [some (.ref ((wC b).2.2.2 + R)), some (.int p1), some (.int p2), some (.int p3), some (.int (x4 + (1 : Int32)))]) rfl ?_
        refine x_goto C dX0_noteCrossing_72 (tgt := 33) (by decide) ?_
        exact x_wk (L' := [some (.ref ((wC b).2.2.2 + R)), some (.int p1), some (.int p2), some (.int p3), some (.int (x4 + (1 : Int32)))]) (And.intro rfl (And.intro rfl (And.intro rfl (And.intro rfl (And.intro rfl trivial))))) (ih ((x4 + (1 : Int32))) (M))
      · refine x_aloadn C dX0_noteCrossing_49 rfl ?_
        refine x_getR C fl_X0_27 cl_0 (R + 1) (nisBnk_0 hR) (kisBnk_0 hR) (fisBnk_5 hR) dX0_noteCrossing_50 ?_
        refine x_iload C dX0_noteCrossing_53 (x := x4) rfl ?_
        refine x_dup2 C dX0_noteCrossing_55 rfl rfl ?_
        refine x_iald C (nisBnk_1 hR) (kisBnk_1 hR) dX0_noteCrossing_56 ?_
        refine x_iconst C dX0_noteCrossing_57 (v := (1 : Int32)) (by decide) ?_
        refine x_iadd C dX0_noteCrossing_58 ?_
        refine x_iast C (nisBnk_1 hR) (kisBnk_1 hR) dX0_noteCrossing_59 ?_
        refine x_ltM (fun M4 => ?_)
        refine x_aloadn C dX0_noteCrossing_60 rfl ?_
        refine x_iloadn C dX0_noteCrossing_61 (x := p1) rfl ?_
        refine x_iloadn C dX0_noteCrossing_62 (x := p3) rfl ?_
        refine x_iand C dX0_noteCrossing_63 ?_
        refine x_iload C dX0_noteCrossing_64 (x := x4) rfl ?_
        refine x_Vv (st := []) C (c_bk_notePulls hR ((p1 &&& p3)) (x4) M4) lk_X0_59 (nisBnk_0 hR) (kisBnk_0 hR) ⟨_, _, rfl⟩ rfl rfl (Nat.le_of_ble_eq_true rfl) (rmok_d (by decide) (by decide)) ⟨Nat.zero_le _, Nat.zero_le _⟩ dX0_noteCrossing_66 (fun M5 => ?_)
        refine x_iinc C dX0_noteCrossing_69 (v := (x4 + (1 : Int32))) rfl rfl (L' := [some (.ref ((wC b).2.2.2 + R)), some (.int p1), some (.int p2), some (.int p3), some (.int (x4 + (1 : Int32)))]) rfl ?_
        refine x_goto C dX0_noteCrossing_72 (tgt := 33) (by decide) ?_
        exact x_wk (L' := [some (.ref ((wC b).2.2.2 + R)), some (.int p1), some (.int p2), some (.int p3), some (.int (x4 + (1 : Int32)))]) (And.intro rfl (And.intro rfl (And.intro rfl (And.intro rfl (And.intro rfl trivial))))) (ih ((x4 + (1 : Int32))) (M5))
set_option maxHeartbeats 4000000 in
set_option maxRecDepth 20000 in
theorem c_bk_noteCrossing {l : Launch} {g : GG} {b : Nat} {R : Nat} (hR : isBnk R) (p1 : Int32) (p2 : Int32) (p3 : Int32) (M : Mem) : CT l g (wC b) (rmd 2) yX0_noteCrossing cX0_noteCrossing 5 none [.ref ((wC b).2.2.2 + R), .int p1, .int p2, .int p3] M finV (bk_noteCrossing R p1 p2 p3 M) := by
  refine CT.of rfl (Nat.le_of_ble_eq_true rfl) (catc rfl (catc rfl (catc rfl (catc rfl cat0)))) (fun z C => ?_)
  have C : Cx z l g (wC b) (rmd 2) cX0_noteCrossing 5 RX0 none := C
  refine x_wk (L' := [some (.ref ((wC b).2.2.2 + R)), some (.int p1), some (.int p2), some (.int p3), none]) (And.intro rfl (And.intro rfl (And.intro rfl (And.intro rfl trivial)))) ?_
  rw [bk_noteCrossing]
  refine x_aloadn C dX0_noteCrossing_0 rfl ?_
  refine x_dup C dX0_noteCrossing_1 rfl ?_
  refine x_getI C fl_X0_9 cl_0 (nisBnk_0 hR) (kisBnk_0 hR) (fisBnk_0 hR) dX0_noteCrossing_2 ?_
  refine x_iloadn C dX0_noteCrossing_5 (x := p1) rfl ?_
  refine x_ixor C dX0_noteCrossing_6 ?_
  refine x_putI C fl_X0_9 cl_0 fint_0_0 (nisBnk_0 hR) (kisBnk_0 hR) (fisBnk_0 hR) dX0_noteCrossing_7 ?_
  refine x_ltM (fun M1 => ?_)
  refine x_aloadn C dX0_noteCrossing_10 rfl ?_
  refine x_dup C dX0_noteCrossing_11 rfl ?_
  refine x_getI C fl_X0_15 cl_0 (nisBnk_0 hR) (kisBnk_0 hR) (fisBnk_1 hR) dX0_noteCrossing_12 ?_
  refine x_iconst C dX0_noteCrossing_15 (v := (1 : Int32)) (by decide) ?_
  refine x_ixor C dX0_noteCrossing_16 ?_
  refine x_putI C fl_X0_15 cl_0 fint_0_1 (nisBnk_0 hR) (kisBnk_0 hR) (fisBnk_1 hR) dX0_noteCrossing_17 ?_
  refine x_ltM (fun M2 => ?_)
  refine x_aloadn C dX0_noteCrossing_20 rfl ?_
  refine x_dup C dX0_noteCrossing_21 rfl ?_
  refine x_getI C fl_X0_21 cl_0 (nisBnk_0 hR) (kisBnk_0 hR) (fisBnk_3 hR) dX0_noteCrossing_22 ?_
  refine x_iconst C dX0_noteCrossing_25 (v := (1 : Int32)) (by decide) ?_
  refine x_iadd C dX0_noteCrossing_26 ?_
  refine x_putI C fl_X0_21 cl_0 fint_0_3 (nisBnk_0 hR) (kisBnk_0 hR) (fisBnk_3 hR) dX0_noteCrossing_27 ?_
  refine x_ltM (fun M3 => ?_)
  refine x_iconst C dX0_noteCrossing_30 (v := (0 : Int32)) (by decide) ?_
  refine x_istore C dX0_noteCrossing_31 (L' := [some (.ref ((wC b).2.2.2 + R)), some (.int p1), some (.int p2), some (.int p3), some (.int (0 : Int32))]) (ltb rfl) rfl ?_
  refine x_wk (L' := [some (.ref ((wC b).2.2.2 + R)), some (.int p1), some (.int p2), some (.int p3), some (.int (0 : Int32))]) (And.intro rfl (And.intro rfl (And.intro rfl (And.intro rfl (And.intro rfl trivial))))) (w_bk_noteCrossing_L33 C hR p1 p2 p3   (fun M7 => ?_) FU ((0 : Int32)) M3)
  exact x_vret C dX0_noteCrossing_75 rfl
def bk_noteSwim (R : Nat) (p1 : Int32) (M : Mem) : Option Mem := lt1 (wr M R 0 ((M R 0) ^^^ ((1 : Int32) <<< (p1 &&& 31)))) fun M1 => lt1 (wr M1 R 4 ((M1 R 4) + (1 : Int32))) fun M2 => chk (inb p1 10) (chk (inb p1 10) (lt1 (wr M2 (R + 1) p1.toNatClampNeg ((M2 (R + 1) p1.toNatClampNeg) + (2 : Int32))) fun M3 => some M3))
set_option maxHeartbeats 4000000 in
set_option maxRecDepth 20000 in
theorem c_bk_noteSwim {l : Launch} {g : GG} {b : Nat} {R : Nat} (hR : isBnk R) (p1 : Int32) (M : Mem) : CT l g (wC b) (rmd 1) yX0_noteSwim cX0_noteSwim 2 none [.ref ((wC b).2.2.2 + R), .int p1] M finV (bk_noteSwim R p1 M) := by
  refine CT.of rfl (Nat.le_of_ble_eq_true rfl) (catc rfl (catc rfl cat0)) (fun z C => ?_)
  have C : Cx z l g (wC b) (rmd 1) cX0_noteSwim 2 RX0 none := C
  refine x_wk (L' := [some (.ref ((wC b).2.2.2 + R)), some (.int p1)]) (And.intro rfl (And.intro rfl trivial)) ?_
  rw [bk_noteSwim]
  refine x_aloadn C dX0_noteSwim_0 rfl ?_
  refine x_dup C dX0_noteSwim_1 rfl ?_
  refine x_getI C fl_X0_9 cl_0 (nisBnk_0 hR) (kisBnk_0 hR) (fisBnk_0 hR) dX0_noteSwim_2 ?_
  refine x_iconst C dX0_noteSwim_5 (v := (1 : Int32)) (by decide) ?_
  refine x_iloadn C dX0_noteSwim_6 (x := p1) rfl ?_
  refine x_ishl C dX0_noteSwim_7 ?_
  refine x_ixor C dX0_noteSwim_8 ?_
  refine x_putI C fl_X0_9 cl_0 fint_0_0 (nisBnk_0 hR) (kisBnk_0 hR) (fisBnk_0 hR) dX0_noteSwim_9 ?_
  refine x_ltM (fun M1 => ?_)
  refine x_aloadn C dX0_noteSwim_12 rfl ?_
  refine x_dup C dX0_noteSwim_13 rfl ?_
  refine x_getI C fl_X0_24 cl_0 (nisBnk_0 hR) (kisBnk_0 hR) (fisBnk_4 hR) dX0_noteSwim_14 ?_
  refine x_iconst C dX0_noteSwim_17 (v := (1 : Int32)) (by decide) ?_
  refine x_iadd C dX0_noteSwim_18 ?_
  refine x_putI C fl_X0_24 cl_0 fint_0_4 (nisBnk_0 hR) (kisBnk_0 hR) (fisBnk_4 hR) dX0_noteSwim_19 ?_
  refine x_ltM (fun M2 => ?_)
  refine x_aloadn C dX0_noteSwim_22 rfl ?_
  refine x_getR C fl_X0_27 cl_0 (R + 1) (nisBnk_0 hR) (kisBnk_0 hR) (fisBnk_5 hR) dX0_noteSwim_23 ?_
  refine x_iloadn C dX0_noteSwim_26 (x := p1) rfl ?_
  refine x_dup2 C dX0_noteSwim_27 rfl rfl ?_
  refine x_iald C (nisBnk_1 hR) (kisBnk_1 hR) dX0_noteSwim_28 ?_
  refine x_iconst C dX0_noteSwim_29 (v := (2 : Int32)) (by decide) ?_
  refine x_iadd C dX0_noteSwim_30 ?_
  refine x_iast C (nisBnk_1 hR) (kisBnk_1 hR) dX0_noteSwim_31 ?_
  refine x_ltM (fun M3 => ?_)
  exact x_vret C dX0_noteSwim_32 rfl
def bk_passMinutes_L30 (R : Nat) (p1 : Int32) (y2 : Int32) (K : Mem → Option Mem) : Nat → Int32 → Mem → Option Mem
  | 0, _, _ => none
  | fu + 1, x3, M => (if x3 < (10 : Int32) then chk (inb x3 10) (chk (inb x3 10) (lt1 (wr M (R + 1) x3.toNatClampNeg (imax (0 : Int32) ((M (R + 1) x3.toNatClampNeg) - y2))) fun M3 => bk_passMinutes_L30 R p1 y2 K fu ((x3 + (1 : Int32))) (M3))) else K (M))
def bk_passMinutes (R : Nat) (p1 : Int32) (M : Mem) : Option Mem := lt1 (((((M R 2) + p1) / (60 : Int32)) - ((M R 2) / (60 : Int32)))) fun v1 => lt1 (wr M R 2 ((M R 2) + p1)) fun M2 => bk_passMinutes_L30 R p1 (v1) (fun M5 => some M5) FU ((0 : Int32)) M2
set_option maxHeartbeats 4000000 in
set_option maxRecDepth 20000 in
theorem w_bk_passMinutes_L30 {z : ZT} {l : Launch} {g : GG} {b : Nat} {R : Nat} (C : Cx z l g (wC b) (rmd 2) cX0_passMinutes 4 RX0 none) (hR : isBnk R) (p1 : Int32) (y2 : Int32) {K : Mem → Option Mem} (hK : ∀ (M : Mem) , XG z g (wC b) 4 (ZQ z g (wC b) finV) 0 0 60 [none, none, none, none] [] M (K M)) : ∀ (fu : Nat) (x3 : Int32) (M : Mem), XG z g (wC b) 4 (ZQ z g (wC b) finV) 0 0 30 [some (.ref ((wC b).2.2.2 + R)), none, some (.int y2), some (.int x3)] [] M (bk_passMinutes_L30 R p1 y2 K fu x3 M) := by
  intro fu
  induction fu with
  | zero => intro x3 M; exact x_none
  | succ fu ih =>
    intro x3 M
    rw [bk_passMinutes_L30]
    refine x_iloadn C dX0_passMinutes_30 (x := x3) rfl ?_
    refine x_bipush C dX0_passMinutes_31 (v := (10 : Int32)) (by decide) ?_
    refine x_icmpge C dX0_passMinutes_33 (tgt := 60) (by decide) (fun _h => ?_) (fun _h => ?_)
    · exact x_wk (L' := [none, none, none, none]) (trivial) (hK (M))
    · refine x_aloadn C dX0_passMinutes_36 rfl ?_
      refine x_getR C fl_X0_27 cl_0 (R + 1) (nisBnk_0 hR) (kisBnk_0 hR) (fisBnk_5 hR) dX0_passMinutes_37 ?_
      refine x_iloadn C dX0_passMinutes_40 (x := x3) rfl ?_
      refine x_iconst C dX0_passMinutes_41 (v := (0 : Int32)) (by decide) ?_
      refine x_aloadn C dX0_passMinutes_42 rfl ?_
      refine x_getR C fl_X0_27 cl_0 (R + 1) (nisBnk_0 hR) (kisBnk_0 hR) (fisBnk_5 hR) dX0_passMinutes_43 ?_
      refine x_iloadn C dX0_passMinutes_46 (x := x3) rfl ?_
      refine x_iald C (nisBnk_1 hR) (kisBnk_1 hR) dX0_passMinutes_47 ?_
      refine x_iloadn C dX0_passMinutes_48 (x := y2) rfl ?_
      refine x_isub C dX0_passMinutes_49 ?_
      refine x_max C lm_X0_56 (Nat.le_of_ble_eq_true rfl) ⟨by decide, by decide⟩ ⟨Nat.zero_le _, Nat.zero_le _⟩ dX0_passMinutes_50 ?_
      refine x_iast C (nisBnk_1 hR) (kisBnk_1 hR) dX0_passMinutes_53 ?_
      refine x_ltM (fun M3 => ?_)
      refine x_iinc C dX0_passMinutes_54 (v := (x3 + (1 : Int32))) rfl rfl (L' := [some (.ref ((wC b).2.2.2 + R)), none, some (.int y2), some (.int (x3 + (1 : Int32)))]) rfl ?_
      refine x_goto C dX0_passMinutes_57 (tgt := 30) (by decide) ?_
      exact x_wk (L' := [some (.ref ((wC b).2.2.2 + R)), none, some (.int y2), some (.int (x3 + (1 : Int32)))]) (And.intro rfl (And.intro rfl (And.intro rfl trivial))) (ih ((x3 + (1 : Int32))) (M3))
set_option maxHeartbeats 4000000 in
set_option maxRecDepth 20000 in
theorem c_bk_passMinutes {l : Launch} {g : GG} {b : Nat} {R : Nat} (hR : isBnk R) (p1 : Int32) (M : Mem) : CT l g (wC b) (rmd 2) yX0_passMinutes cX0_passMinutes 4 none [.ref ((wC b).2.2.2 + R), .int p1] M finV (bk_passMinutes R p1 M) := by
  refine CT.of rfl (Nat.le_of_ble_eq_true rfl) (catc rfl (catc rfl cat0)) (fun z C => ?_)
  have C : Cx z l g (wC b) (rmd 2) cX0_passMinutes 4 RX0 none := C
  refine x_wk (L' := [some (.ref ((wC b).2.2.2 + R)), some (.int p1), none, none]) (And.intro rfl (And.intro rfl trivial)) ?_
  rw [bk_passMinutes]
  refine x_aloadn C dX0_passMinutes_0 rfl ?_
  refine x_getI C fl_X0_18 cl_0 (nisBnk_0 hR) (kisBnk_0 hR) (fisBnk_2 hR) dX0_passMinutes_1 ?_
  refine x_iloadn C dX0_passMinutes_4 (x := p1) rfl ?_
  refine x_iadd C dX0_passMinutes_5 ?_
  refine x_bipush C dX0_passMinutes_6 (v := (60 : Int32)) (by decide) ?_
  refine x_idiv C dX0_passMinutes_8 (by decide) ?_
  refine x_aloadn C dX0_passMinutes_9 rfl ?_
  refine x_getI C fl_X0_18 cl_0 (nisBnk_0 hR) (kisBnk_0 hR) (fisBnk_2 hR) dX0_passMinutes_10 ?_
  refine x_bipush C dX0_passMinutes_13 (v := (60 : Int32)) (by decide) ?_
  refine x_idiv C dX0_passMinutes_15 (by decide) ?_
  refine x_isub C dX0_passMinutes_16 ?_
  refine x_lti (fun v1 => ?_)
  refine x_istoren C dX0_passMinutes_17 (L' := [some (.ref ((wC b).2.2.2 + R)), some (.int p1), some (.int v1), none]) (ltb rfl) rfl ?_
  refine x_aloadn C dX0_passMinutes_18 rfl ?_
  refine x_dup C dX0_passMinutes_19 rfl ?_
  refine x_getI C fl_X0_18 cl_0 (nisBnk_0 hR) (kisBnk_0 hR) (fisBnk_2 hR) dX0_passMinutes_20 ?_
  refine x_iloadn C dX0_passMinutes_23 (x := p1) rfl ?_
  refine x_iadd C dX0_passMinutes_24 ?_
  refine x_putI C fl_X0_18 cl_0 fint_0_2 (nisBnk_0 hR) (kisBnk_0 hR) (fisBnk_2 hR) dX0_passMinutes_25 ?_
  refine x_ltM (fun M2 => ?_)
  refine x_iconst C dX0_passMinutes_28 (v := (0 : Int32)) (by decide) ?_
  refine x_istoren C dX0_passMinutes_29 (L' := [some (.ref ((wC b).2.2.2 + R)), some (.int p1), some (.int v1), some (.int (0 : Int32))]) (ltb rfl) rfl ?_
  refine x_wk (L' := [some (.ref ((wC b).2.2.2 + R)), none, some (.int v1), some (.int (0 : Int32))]) (And.intro rfl (And.intro rfl (And.intro rfl trivial))) (w_bk_passMinutes_L30 C hR p1 (v1)  (fun M5 => ?_) FU ((0 : Int32)) M2)
  exact x_vret C dX0_passMinutes_60 rfl
def bk_balanceOf_L4 (R : Nat) (p1 : Int32) (M : Mem) (K : Int32 → Option Int32) : Nat → Int32 → Int32 → Option Int32
  | 0, _, _ => none
  | fu + 1, x2, x3 => (if x3 < (10 : Int32) then chk (inb x3 10) (chk (inb p1 10) (chk (inb p1 10) (chk (inb x3 10) (lt1 ((x2 + ((M (R + 2 + 1 + x3.toNatClampNeg) p1.toNatClampNeg) - (M (R + 2 + 1 + p1.toNatClampNeg) x3.toNatClampNeg)))) fun v3 => bk_balanceOf_L4 R p1 M K fu (v3) ((x3 + (1 : Int32))))))) else K (x2))
def bk_balanceOf (R : Nat) (p1 : Int32) (M : Mem) : Option Int32 := bk_balanceOf_L4 R p1 M (fun v2_3 => some (v2_3)) FU ((0 : Int32)) ((0 : Int32))
set_option maxHeartbeats 4000000 in
set_option maxRecDepth 20000 in
theorem w_bk_balanceOf_L4 {z : ZT} {l : Launch} {g : GG} {b : Nat} {R : Nat} (C : Cx z l g (wC b) (rmd 1) cX0_balanceOf 4 RX0 (some .int)) (hR : isBnk R) (p1 : Int32) (M : Mem) {K : Int32 → Option Int32} (hK : ∀ (x2 : Int32) , XG z g (wC b) 4 (ZQ z g (wC b) (finI M)) 0 0 36 [none, none, some (.int x2), none] [] M (K x2)) : ∀ (fu : Nat) (x2 : Int32) (x3 : Int32), XG z g (wC b) 4 (ZQ z g (wC b) (finI M)) 0 0 4 [some (.ref ((wC b).2.2.2 + R)), some (.int p1), some (.int x2), some (.int x3)] [] M (bk_balanceOf_L4 R p1 M K fu x2 x3) := by
  intro fu
  induction fu with
  | zero => intro x2 x3; exact x_none
  | succ fu ih =>
    intro x2 x3
    rw [bk_balanceOf_L4]
    refine x_iloadn C dX0_balanceOf_4 (x := x3) rfl ?_
    refine x_bipush C dX0_balanceOf_5 (v := (10 : Int32)) (by decide) ?_
    refine x_icmpge C dX0_balanceOf_7 (tgt := 36) (by decide) (fun _h => ?_) (fun _h => ?_)
    · exact x_wk (L' := [none, none, some (.int x2), none]) (And.intro rfl trivial) (hK (x2))
    · refine x_iloadn C dX0_balanceOf_10 (x := x2) rfl ?_
      refine x_aloadn C dX0_balanceOf_11 rfl ?_
      refine x_getR C fl_X0_33 cl_0 (R + 2) (nisBnk_0 hR) (kisBnk_0 hR) (fisBnk_6 hR) dX0_balanceOf_12 ?_
      refine x_iloadn C dX0_balanceOf_15 (x := x3) rfl ?_
      refine x_rald C (nisBnk_2 hR) (kisBnk_2 hR) dX0_balanceOf_16 (fun hi1 => ?_)
      refine x_iloadn C dX0_balanceOf_17 (x := p1) rfl ?_
      refine x_iald C (nRow hR hi1) (kRow hR hi1) dX0_balanceOf_18 ?_
      refine x_aloadn C dX0_balanceOf_19 rfl ?_
      refine x_getR C fl_X0_33 cl_0 (R + 2) (nisBnk_0 hR) (kisBnk_0 hR) (fisBnk_6 hR) dX0_balanceOf_20 ?_
      refine x_iloadn C dX0_balanceOf_23 (x := p1) rfl ?_
      refine x_rald C (nisBnk_2 hR) (kisBnk_2 hR) dX0_balanceOf_24 (fun hi2 => ?_)
      refine x_iloadn C dX0_balanceOf_25 (x := x3) rfl ?_
      refine x_iald C (nRow hR hi2) (kRow hR hi2) dX0_balanceOf_26 ?_
      refine x_isub C dX0_balanceOf_27 ?_
      refine x_iadd C dX0_balanceOf_28 ?_
      refine x_lti (fun v3 => ?_)
      refine x_istoren C dX0_balanceOf_29 (L' := [some (.ref ((wC b).2.2.2 + R)), some (.int p1), some (.int v3), some (.int x3)]) (ltb rfl) rfl ?_
      refine x_iinc C dX0_balanceOf_30 (v := (x3 + (1 : Int32))) rfl rfl (L' := [some (.ref ((wC b).2.2.2 + R)), some (.int p1), some (.int v3), some (.int (x3 + (1 : Int32)))]) rfl ?_
      refine x_goto C dX0_balanceOf_33 (tgt := 4) (by decide) ?_
      exact x_wk (L' := [some (.ref ((wC b).2.2.2 + R)), some (.int p1), some (.int v3), some (.int (x3 + (1 : Int32)))]) (And.intro rfl (And.intro rfl (And.intro rfl (And.intro rfl trivial)))) (ih (v3) ((x3 + (1 : Int32))))
set_option maxHeartbeats 4000000 in
set_option maxRecDepth 20000 in
theorem c_bk_balanceOf {l : Launch} {g : GG} {b : Nat} {R : Nat} (hR : isBnk R) (p1 : Int32) (M : Mem) : CT l g (wC b) (rmd 1) yX0_balanceOf cX0_balanceOf 4 (some .int) [.ref ((wC b).2.2.2 + R), .int p1] M (finI M) (bk_balanceOf R p1 M) := by
  refine CT.of rfl (Nat.le_of_ble_eq_true rfl) (catc rfl (catc rfl cat0)) (fun z C => ?_)
  have C : Cx z l g (wC b) (rmd 1) cX0_balanceOf 4 RX0 (some .int) := C
  refine x_wk (L' := [some (.ref ((wC b).2.2.2 + R)), some (.int p1), none, none]) (And.intro rfl (And.intro rfl trivial)) ?_
  rw [bk_balanceOf]
  refine x_iconst C dX0_balanceOf_0 (v := (0 : Int32)) (by decide) ?_
  refine x_istoren C dX0_balanceOf_1 (L' := [some (.ref ((wC b).2.2.2 + R)), some (.int p1), some (.int (0 : Int32)), none]) (ltb rfl) rfl ?_
  refine x_iconst C dX0_balanceOf_2 (v := (0 : Int32)) (by decide) ?_
  refine x_istoren C dX0_balanceOf_3 (L' := [some (.ref ((wC b).2.2.2 + R)), some (.int p1), some (.int (0 : Int32)), some (.int (0 : Int32))]) (ltb rfl) rfl ?_
  refine x_wk (L' := [some (.ref ((wC b).2.2.2 + R)), some (.int p1), some (.int (0 : Int32)), some (.int (0 : Int32))]) (And.intro rfl (And.intro rfl (And.intro rfl (And.intro rfl trivial)))) (w_bk_balanceOf_L4 C hR p1  M (fun v2_3 => ?_) FU ((0 : Int32)) ((0 : Int32)) )
  refine x_iloadn C dX0_balanceOf_36 (x := v2_3) rfl ?_
  exact x_iret C dX0_balanceOf_37 rfl
def bk_greatest_L4 (R : Nat) (M : Mem) (K : Int32 → Option Int32) : Nat → Int32 → Int32 → Option Int32
  | 0, _, _ => none
  | fu + 1, x1, x2 => (if x2 < (10 : Int32) then chk (inb x2 10) (chk (inb x1 10) ((if (M (R + 13) x1.toNatClampNeg) < (M (R + 13) x2.toNatClampNeg) then bk_greatest_L4 R M K fu (x2) ((x2 + (1 : Int32))) else bk_greatest_L4 R M K fu (x1) ((x2 + (1 : Int32)))))) else K (x1))
def bk_greatest (R : Nat) (M : Mem) : Option Int32 := bk_greatest_L4 R M (fun v1_0 => some (v1_0)) FU ((0 : Int32)) ((1 : Int32))
set_option maxHeartbeats 4000000 in
set_option maxRecDepth 20000 in
theorem w_bk_greatest_L4 {z : ZT} {l : Launch} {g : GG} {b : Nat} {R : Nat} (C : Cx z l g (wC b) (rmd 1) cX0_greatest 3 RX0 (some .int)) (hR : isBnk R) (M : Mem) {K : Int32 → Option Int32} (hK : ∀ (x1 : Int32) , XG z g (wC b) 3 (ZQ z g (wC b) (finI M)) 0 0 33 [none, some (.int x1), none] [] M (K x1)) : ∀ (fu : Nat) (x1 : Int32) (x2 : Int32), XG z g (wC b) 3 (ZQ z g (wC b) (finI M)) 0 0 4 [some (.ref ((wC b).2.2.2 + R)), some (.int x1), some (.int x2)] [] M (bk_greatest_L4 R M K fu x1 x2) := by
  intro fu
  induction fu with
  | zero => intro x1 x2; exact x_none
  | succ fu ih =>
    intro x1 x2
    rw [bk_greatest_L4]
    refine x_iloadn C dX0_greatest_4 (x := x2) rfl ?_
    refine x_bipush C dX0_greatest_5 (v := (10 : Int32)) (by decide) ?_
    refine x_icmpge C dX0_greatest_7 (tgt := 33) (by decide) (fun _h => ?_) (fun _h => ?_)
    · exact x_wk (L' := [none, some (.int x1), none]) (And.intro rfl trivial) (hK (x1))
    · refine x_aloadn C dX0_greatest_10 rfl ?_
      refine x_getR C fl_X0_36 cl_0 (R + 13) (nisBnk_0 hR) (kisBnk_0 hR) (fisBnk_7 hR) dX0_greatest_11 ?_
      refine x_iloadn C dX0_greatest_14 (x := x2) rfl ?_
      refine x_iald C (nisBnk_13 hR) (kisBnk_13 hR) dX0_greatest_15 ?_
      refine x_aloadn C dX0_greatest_16 rfl ?_
      refine x_getR C fl_X0_36 cl_0 (R + 13) (nisBnk_0 hR) (kisBnk_0 hR) (fisBnk_7 hR) dX0_greatest_17 ?_
      refine x_iloadn C dX0_greatest_20 (x := x1) rfl ?_
      refine x_iald C (nisBnk_13 hR) (kisBnk_13 hR) dX0_greatest_21 ?_
      refine x_icmple C dX0_greatest_22 (tgt := 27) (by decide) (fun _h => ?_) (fun _h => ?_)
      · refine x_iinc C dX0_greatest_27 (v := (x2 + (1 : Int32))) rfl rfl (L' := [some (.ref ((wC b).2.2.2 + R)), some (.int x1), some (.int (x2 + (1 : Int32)))]) rfl ?_
        refine x_goto C dX0_greatest_30 (tgt := 4) (by decide) ?_
        exact x_wk (L' := [some (.ref ((wC b).2.2.2 + R)), some (.int x1), some (.int (x2 + (1 : Int32)))]) (And.intro rfl (And.intro rfl (And.intro rfl trivial))) (ih (x1) ((x2 + (1 : Int32))))
      · refine x_iloadn C dX0_greatest_25 (x := x2) rfl ?_
        refine x_istoren C dX0_greatest_26 (L' := [some (.ref ((wC b).2.2.2 + R)), some (.int x2), some (.int x2)]) (ltb rfl) rfl ?_
        refine x_iinc C dX0_greatest_27 (v := (x2 + (1 : Int32))) rfl rfl (L' := [some (.ref ((wC b).2.2.2 + R)), some (.int x2), some (.int (x2 + (1 : Int32)))]) rfl ?_
        refine x_goto C dX0_greatest_30 (tgt := 4) (by decide) ?_
        exact x_wk (L' := [some (.ref ((wC b).2.2.2 + R)), some (.int x2), some (.int (x2 + (1 : Int32)))]) (And.intro rfl (And.intro rfl (And.intro rfl trivial))) (ih (x2) ((x2 + (1 : Int32))))
set_option maxHeartbeats 4000000 in
set_option maxRecDepth 20000 in
theorem c_bk_greatest {l : Launch} {g : GG} {b : Nat} {R : Nat} (hR : isBnk R) (M : Mem) : CT l g (wC b) (rmd 1) yX0_greatest cX0_greatest 3 (some .int) [.ref ((wC b).2.2.2 + R)] M (finI M) (bk_greatest R M) := by
  refine CT.of rfl (Nat.le_of_ble_eq_true rfl) (catc rfl cat0) (fun z C => ?_)
  have C : Cx z l g (wC b) (rmd 1) cX0_greatest 3 RX0 (some .int) := C
  refine x_wk (L' := [some (.ref ((wC b).2.2.2 + R)), none, none]) (And.intro rfl trivial) ?_
  rw [bk_greatest]
  refine x_iconst C dX0_greatest_0 (v := (0 : Int32)) (by decide) ?_
  refine x_istoren C dX0_greatest_1 (L' := [some (.ref ((wC b).2.2.2 + R)), some (.int (0 : Int32)), none]) (ltb rfl) rfl ?_
  refine x_iconst C dX0_greatest_2 (v := (1 : Int32)) (by decide) ?_
  refine x_istoren C dX0_greatest_3 (L' := [some (.ref ((wC b).2.2.2 + R)), some (.int (0 : Int32)), some (.int (1 : Int32))]) (ltb rfl) rfl ?_
  refine x_wk (L' := [some (.ref ((wC b).2.2.2 + R)), some (.int (0 : Int32)), some (.int (1 : Int32))]) (And.intro rfl (And.intro rfl (And.intro rfl trivial))) (w_bk_greatest_L4 C hR   M (fun v1_0 => ?_) FU ((0 : Int32)) ((1 : Int32)) )
  refine x_iloadn C dX0_greatest_33 (x := v1_0) rfl ?_
  exact x_iret C dX0_greatest_34 rfl
def bk_least_L4 (R : Nat) (M : Mem) (K : Int32 → Option Int32) : Nat → Int32 → Int32 → Option Int32
  | 0, _, _ => none
  | fu + 1, x1, x2 => (if x2 < (10 : Int32) then chk (inb x2 10) (chk (inb x1 10) ((if (M (R + 13) x2.toNatClampNeg) < (M (R + 13) x1.toNatClampNeg) then bk_least_L4 R M K fu (x2) ((x2 + (1 : Int32))) else bk_least_L4 R M K fu (x1) ((x2 + (1 : Int32)))))) else K (x1))
def bk_least (R : Nat) (M : Mem) : Option Int32 := bk_least_L4 R M (fun v1_0 => some (v1_0)) FU ((0 : Int32)) ((1 : Int32))
set_option maxHeartbeats 4000000 in
set_option maxRecDepth 20000 in
theorem w_bk_least_L4 {z : ZT} {l : Launch} {g : GG} {b : Nat} {R : Nat} (C : Cx z l g (wC b) (rmd 1) cX0_least 3 RX0 (some .int)) (hR : isBnk R) (M : Mem) {K : Int32 → Option Int32} (hK : ∀ (x1 : Int32) , XG z g (wC b) 3 (ZQ z g (wC b) (finI M)) 0 0 33 [none, some (.int x1), none] [] M (K x1)) : ∀ (fu : Nat) (x1 : Int32) (x2 : Int32), XG z g (wC b) 3 (ZQ z g (wC b) (finI M)) 0 0 4 [some (.ref ((wC b).2.2.2 + R)), some (.int x1), some (.int x2)] [] M (bk_least_L4 R M K fu x1 x2) := by
  intro fu
  induction fu with
  | zero => intro x1 x2; exact x_none
  | succ fu ih =>
    intro x1 x2
    rw [bk_least_L4]
    refine x_iloadn C dX0_least_4 (x := x2) rfl ?_
    refine x_bipush C dX0_least_5 (v := (10 : Int32)) (by decide) ?_
    refine x_icmpge C dX0_least_7 (tgt := 33) (by decide) (fun _h => ?_) (fun _h => ?_)
    · exact x_wk (L' := [none, some (.int x1), none]) (And.intro rfl trivial) (hK (x1))
    · refine x_aloadn C dX0_least_10 rfl ?_
      refine x_getR C fl_X0_36 cl_0 (R + 13) (nisBnk_0 hR) (kisBnk_0 hR) (fisBnk_7 hR) dX0_least_11 ?_
      refine x_iloadn C dX0_least_14 (x := x2) rfl ?_
      refine x_iald C (nisBnk_13 hR) (kisBnk_13 hR) dX0_least_15 ?_
      refine x_aloadn C dX0_least_16 rfl ?_
      refine x_getR C fl_X0_36 cl_0 (R + 13) (nisBnk_0 hR) (kisBnk_0 hR) (fisBnk_7 hR) dX0_least_17 ?_
      refine x_iloadn C dX0_least_20 (x := x1) rfl ?_
      refine x_iald C (nisBnk_13 hR) (kisBnk_13 hR) dX0_least_21 ?_
      refine x_icmpge C dX0_least_22 (tgt := 27) (by decide) (fun _h => ?_) (fun _h => ?_)
      · refine x_iinc C dX0_least_27 (v := (x2 + (1 : Int32))) rfl rfl (L' := [some (.ref ((wC b).2.2.2 + R)), some (.int x1), some (.int (x2 + (1 : Int32)))]) rfl ?_
        refine x_goto C dX0_least_30 (tgt := 4) (by decide) ?_
        exact x_wk (L' := [some (.ref ((wC b).2.2.2 + R)), some (.int x1), some (.int (x2 + (1 : Int32)))]) (And.intro rfl (And.intro rfl (And.intro rfl trivial))) (ih (x1) ((x2 + (1 : Int32))))
      · refine x_iloadn C dX0_least_25 (x := x2) rfl ?_
        refine x_istoren C dX0_least_26 (L' := [some (.ref ((wC b).2.2.2 + R)), some (.int x2), some (.int x2)]) (ltb rfl) rfl ?_
        refine x_iinc C dX0_least_27 (v := (x2 + (1 : Int32))) rfl rfl (L' := [some (.ref ((wC b).2.2.2 + R)), some (.int x2), some (.int (x2 + (1 : Int32)))]) rfl ?_
        refine x_goto C dX0_least_30 (tgt := 4) (by decide) ?_
        exact x_wk (L' := [some (.ref ((wC b).2.2.2 + R)), some (.int x2), some (.int (x2 + (1 : Int32)))]) (And.intro rfl (And.intro rfl (And.intro rfl trivial))) (ih (x2) ((x2 + (1 : Int32))))
set_option maxHeartbeats 4000000 in
set_option maxRecDepth 20000 in
theorem c_bk_least {l : Launch} {g : GG} {b : Nat} {R : Nat} (hR : isBnk R) (M : Mem) : CT l g (wC b) (rmd 1) yX0_least cX0_least 3 (some .int) [.ref ((wC b).2.2.2 + R)] M (finI M) (bk_least R M) := by
  refine CT.of rfl (Nat.le_of_ble_eq_true rfl) (catc rfl cat0) (fun z C => ?_)
  have C : Cx z l g (wC b) (rmd 1) cX0_least 3 RX0 (some .int) := C
  refine x_wk (L' := [some (.ref ((wC b).2.2.2 + R)), none, none]) (And.intro rfl trivial) ?_
  rw [bk_least]
  refine x_iconst C dX0_least_0 (v := (0 : Int32)) (by decide) ?_
  refine x_istoren C dX0_least_1 (L' := [some (.ref ((wC b).2.2.2 + R)), some (.int (0 : Int32)), none]) (ltb rfl) rfl ?_
  refine x_iconst C dX0_least_2 (v := (1 : Int32)) (by decide) ?_
  refine x_istoren C dX0_least_3 (L' := [some (.ref ((wC b).2.2.2 + R)), some (.int (0 : Int32)), some (.int (1 : Int32))]) (ltb rfl) rfl ?_
  refine x_wk (L' := [some (.ref ((wC b).2.2.2 + R)), some (.int (0 : Int32)), some (.int (1 : Int32))]) (And.intro rfl (And.intro rfl (And.intro rfl trivial))) (w_bk_least_L4 C hR   M (fun v1_0 => ?_) FU ((0 : Int32)) ((1 : Int32)) )
  refine x_iloadn C dX0_least_33 (x := v1_0) rfl ?_
  exact x_iret C dX0_least_34 rfl
def bk_payment_L2 (R : Nat) (p1 : Int32) (K : Mem → Option (Int32 × Mem)) : Nat → Int32 → Mem → Option (Int32 × Mem)
  | 0, _, _ => none
  | fu + 1, x2, M => (if x2 < (10 : Int32) then (bk_balanceOf R (x2) M).bind fun v1 => chk (inb x2 10) (lt1 (wr M (R + 13) x2.toNatClampNeg v1) fun M2 => bk_payment_L2 R p1 K fu ((x2 + (1 : Int32))) (M2)) else K (M))
def bk_payment_L29 (R : Nat) (p1 : Int32) (K : Int32 → Mem → Option (Int32 × Mem)) : Nat → Int32 → Int32 → Mem → Option (Int32 × Mem)
  | 0, _, _, _ => none
  | fu + 1, x2, x3, M => (if x3 < (10 : Int32) then (bk_greatest R M).bind fun v5 => (bk_least R M).bind fun v6 => chk (inb v5 10) (chk (inb v6 10) (lt1 ((imin (M (R + 13) v5.toNatClampNeg) (-(M (R + 13) v6.toNatClampNeg)))) fun v7 => (if 0 < v7 then (if x2 = p1 then some (((((10000 : Int32) * v6) + ((100 : Int32) * v5)) + (irem v7 (100 : Int32))), M) else chk (inb v5 10) (chk (inb v5 10) (lt1 (wr M (R + 13) v5.toNatClampNeg ((M (R + 13) v5.toNatClampNeg) - v7)) fun M8 => chk (inb v6 10) (chk (inb v6 10) (lt1 (wr M8 (R + 13) v6.toNatClampNeg ((M8 (R + 13) v6.toNatClampNeg) + v7)) fun M9 => bk_payment_L29 R p1 K fu ((x2 + (1 : Int32))) ((x3 + (1 : Int32))) (M9)))))) else K (x2) (M)))) else K (x2) (M))
def bk_payment (R : Nat) (p1 : Int32) (M : Mem) : Option (Int32 × Mem) := bk_payment_L2 R p1 (fun M4 => bk_payment_L29 R p1 (fun v2_9 M11 => (if p1 = (-1 : Int32) then some (v2_9, M11) else some ((-1 : Int32), M11))) FU ((0 : Int32)) ((0 : Int32)) M4) FU ((0 : Int32)) M
set_option maxHeartbeats 4000000 in
set_option maxRecDepth 20000 in
theorem w_bk_payment_L2 {z : ZT} {l : Launch} {g : GG} {b : Nat} {R : Nat} (C : Cx z l g (wC b) (rmd 2) cX0_payment 7 RX0 (some .int)) (hR : isBnk R) (p1 : Int32) {K : Mem → Option (Int32 × Mem)} (hK : ∀ (M : Mem) , XG z g (wC b) 7 (ZQ z g (wC b) finM) 0 0 25 [some (.ref ((wC b).2.2.2 + R)), some (.int p1), none, none, none, none, none] [] M (K M)) : ∀ (fu : Nat) (x2 : Int32) (M : Mem), XG z g (wC b) 7 (ZQ z g (wC b) finM) 0 0 2 [some (.ref ((wC b).2.2.2 + R)), some (.int p1), some (.int x2), none, none, none, none] [] M (bk_payment_L2 R p1 K fu x2 M) := by
  intro fu
  induction fu with
  | zero => intro x2 M; exact x_none
  | succ fu ih =>
    intro x2 M
    rw [bk_payment_L2]
    refine x_iloadn C dX0_payment_2 (x := x2) rfl ?_
    refine x_bipush C dX0_payment_3 (v := (10 : Int32)) (by decide) ?_
    refine x_icmpge C dX0_payment_5 (tgt := 25) (by decide) (fun _h => ?_) (fun _h => ?_)
    · exact x_wk (L' := [some (.ref ((wC b).2.2.2 + R)), some (.int p1), none, none, none, none, none]) (And.intro rfl (And.intro rfl trivial)) (hK (M))
    · refine x_aloadn C dX0_payment_8 rfl ?_
      refine x_getR C fl_X0_36 cl_0 (R + 13) (nisBnk_0 hR) (kisBnk_0 hR) (fisBnk_7 hR) dX0_payment_9 ?_
      refine x_iloadn C dX0_payment_12 (x := x2) rfl ?_
      refine x_aloadn C dX0_payment_13 rfl ?_
      refine x_iloadn C dX0_payment_14 (x := x2) rfl ?_
      refine x_Vi (st := [.int x2, .ref ((wC b).2.2.2 + (R + 13))]) C (c_bk_balanceOf hR (x2) M) lk_X0_63 (nisBnk_0 hR) (kisBnk_0 hR) ⟨_, _, rfl⟩ rfl rfl (Nat.le_of_ble_eq_true rfl) (rmok_d (by decide) (by decide)) ⟨Nat.zero_le _, Nat.zero_le _⟩ dX0_payment_15 (fun v1 => ?_)
      refine x_iast C (nisBnk_13 hR) (kisBnk_13 hR) dX0_payment_18 ?_
      refine x_ltM (fun M2 => ?_)
      refine x_iinc C dX0_payment_19 (v := (x2 + (1 : Int32))) rfl rfl (L' := [some (.ref ((wC b).2.2.2 + R)), some (.int p1), some (.int (x2 + (1 : Int32))), none, none, none, none]) rfl ?_
      refine x_goto C dX0_payment_22 (tgt := 2) (by decide) ?_
      exact x_wk (L' := [some (.ref ((wC b).2.2.2 + R)), some (.int p1), some (.int (x2 + (1 : Int32))), none, none, none, none]) (And.intro rfl (And.intro rfl (And.intro rfl trivial))) (ih ((x2 + (1 : Int32))) (M2))
set_option maxHeartbeats 4000000 in
set_option maxRecDepth 20000 in
theorem w_bk_payment_L29 {z : ZT} {l : Launch} {g : GG} {b : Nat} {R : Nat} (C : Cx z l g (wC b) (rmd 2) cX0_payment 7 RX0 (some .int)) (hR : isBnk R) (p1 : Int32) {K : Int32 → Mem → Option (Int32 × Mem)} (hK : ∀ (x2 : Int32) (M : Mem) , XG z g (wC b) 7 (ZQ z g (wC b) finM) 0 0 132 [none, some (.int p1), some (.int x2), none, none, none, none] [] M (K x2 M)) : ∀ (fu : Nat) (x2 : Int32) (x3 : Int32) (M : Mem), XG z g (wC b) 7 (ZQ z g (wC b) finM) 0 0 29 [some (.ref ((wC b).2.2.2 + R)), some (.int p1), some (.int x2), some (.int x3), none, none, none] [] M (bk_payment_L29 R p1 K fu x2 x3 M) := by
  intro fu
  induction fu with
  | zero => intro x2 x3 M; exact x_none
  | succ fu ih =>
    intro x2 x3 M
    rw [bk_payment_L29]
    refine x_iloadn C dX0_payment_29 (x := x3) rfl ?_
    refine x_bipush C dX0_payment_30 (v := (10 : Int32)) (by decide) ?_
    refine x_icmpge C dX0_payment_32 (tgt := 132) (by decide) (fun _h => ?_) (fun _h => ?_)
    · exact x_wk (L' := [none, some (.int p1), some (.int x2), none, none, none, none]) (And.intro rfl (And.intro rfl trivial)) (hK (x2) (M))
    · refine x_aloadn C dX0_payment_35 rfl ?_
      refine x_Vi (st := []) C (c_bk_greatest hR  M) lk_X0_67 (nisBnk_0 hR) (kisBnk_0 hR) ⟨_, _, rfl⟩ rfl rfl (Nat.le_of_ble_eq_true rfl) (rmok_d (by decide) (by decide)) ⟨Nat.zero_le _, Nat.zero_le _⟩ dX0_payment_36 (fun v5 => ?_)
      refine x_istore C dX0_payment_39 (L' := [some (.ref ((wC b).2.2.2 + R)), some (.int p1), some (.int x2), some (.int x3), some (.int v5), none, none]) (ltb rfl) rfl ?_
      refine x_aloadn C dX0_payment_41 rfl ?_
      refine x_Vi (st := []) C (c_bk_least hR  M) lk_X0_71 (nisBnk_0 hR) (kisBnk_0 hR) ⟨_, _, rfl⟩ rfl rfl (Nat.le_of_ble_eq_true rfl) (rmok_d (by decide) (by decide)) ⟨Nat.zero_le _, Nat.zero_le _⟩ dX0_payment_42 (fun v6 => ?_)
      refine x_istore C dX0_payment_45 (L' := [some (.ref ((wC b).2.2.2 + R)), some (.int p1), some (.int x2), some (.int x3), some (.int v5), some (.int v6), none]) (ltb rfl) rfl ?_
      refine x_aloadn C dX0_payment_47 rfl ?_
      refine x_getR C fl_X0_36 cl_0 (R + 13) (nisBnk_0 hR) (kisBnk_0 hR) (fisBnk_7 hR) dX0_payment_48 ?_
      refine x_iload C dX0_payment_51 (x := v5) rfl ?_
      refine x_iald C (nisBnk_13 hR) (kisBnk_13 hR) dX0_payment_53 ?_
      refine x_aloadn C dX0_payment_54 rfl ?_
      refine x_getR C fl_X0_36 cl_0 (R + 13) (nisBnk_0 hR) (kisBnk_0 hR) (fisBnk_7 hR) dX0_payment_55 ?_
      refine x_iload C dX0_payment_58 (x := v6) rfl ?_
      refine x_iald C (nisBnk_13 hR) (kisBnk_13 hR) dX0_payment_60 ?_
      refine x_ineg C dX0_payment_61 ?_
      refine x_min C lm_X0_74 (Nat.le_of_ble_eq_true rfl) ⟨by decide, by decide⟩ ⟨Nat.zero_le _, Nat.zero_le _⟩ dX0_payment_62 ?_
      refine x_lti (fun v7 => ?_)
      refine x_istore C dX0_payment_65 (L' := [some (.ref ((wC b).2.2.2 + R)), some (.int p1), some (.int x2), some (.int x3), some (.int v5), some (.int v6), some (.int v7)]) (ltb rfl) rfl ?_
      refine x_iload C dX0_payment_67 (x := v7) rfl ?_
      refine x_ifgt C dX0_payment_69 (tgt := 75) (by decide) (fun _h => ?_) (fun _h => ?_)
      · refine x_iloadn C dX0_payment_75 (x := x2) rfl ?_
        refine x_iloadn C dX0_payment_76 (x := p1) rfl ?_
        refine x_icmpne C dX0_payment_77 (tgt := 99) (by decide) (fun _h => ?_) (fun _h => ?_)
        · refine x_aloadn C dX0_payment_99 rfl ?_
          refine x_getR C fl_X0_36 cl_0 (R + 13) (nisBnk_0 hR) (kisBnk_0 hR) (fisBnk_7 hR) dX0_payment_100 ?_
          refine x_iload C dX0_payment_103 (x := v5) rfl ?_
          refine x_dup2 C dX0_payment_105 rfl rfl ?_
          refine x_iald C (nisBnk_13 hR) (kisBnk_13 hR) dX0_payment_106 ?_
          refine x_iload C dX0_payment_107 (x := v7) rfl ?_
          refine x_isub C dX0_payment_109 ?_
          refine x_iast C (nisBnk_13 hR) (kisBnk_13 hR) dX0_payment_110 ?_
          refine x_ltM (fun M8 => ?_)
          refine x_aloadn C dX0_payment_111 rfl ?_
          refine x_getR C fl_X0_36 cl_0 (R + 13) (nisBnk_0 hR) (kisBnk_0 hR) (fisBnk_7 hR) dX0_payment_112 ?_
          refine x_iload C dX0_payment_115 (x := v6) rfl ?_
          refine x_dup2 C dX0_payment_117 rfl rfl ?_
          refine x_iald C (nisBnk_13 hR) (kisBnk_13 hR) dX0_payment_118 ?_
          refine x_iload C dX0_payment_119 (x := v7) rfl ?_
          refine x_iadd C dX0_payment_121 ?_
          refine x_iast C (nisBnk_13 hR) (kisBnk_13 hR) dX0_payment_122 ?_
          refine x_ltM (fun M9 => ?_)
          refine x_iinc C dX0_payment_123 (v := (x2 + (1 : Int32))) rfl rfl (L' := [some (.ref ((wC b).2.2.2 + R)), some (.int p1), some (.int (x2 + (1 : Int32))), some (.int x3), some (.int v5), some (.int v6), some (.int v7)]) rfl ?_
          refine x_iinc C dX0_payment_126 (v := (x3 + (1 : Int32))) rfl rfl (L' := [some (.ref ((wC b).2.2.2 + R)), some (.int p1), some (.int (x2 + (1 : Int32))), some (.int (x3 + (1 : Int32))), some (.int v5), some (.int v6), some (.int v7)]) rfl ?_
          refine x_goto C dX0_payment_129 (tgt := 29) (by decide) ?_
          exact x_wk (L' := [some (.ref ((wC b).2.2.2 + R)), some (.int p1), some (.int (x2 + (1 : Int32))), some (.int (x3 + (1 : Int32))), none, none, none]) (And.intro rfl (And.intro rfl (And.intro rfl (And.intro rfl trivial)))) (ih ((x2 + (1 : Int32))) ((x3 + (1 : Int32))) (M9))
        · refine x_sipush C dX0_payment_80 (v := (10000 : Int32)) (by decide) ?_
          refine x_iload C dX0_payment_83 (x := v6) rfl ?_
          refine x_imul C dX0_payment_85 ?_
          refine x_bipush C dX0_payment_86 (v := (100 : Int32)) (by decide) ?_
          refine x_iload C dX0_payment_88 (x := v5) rfl ?_
          refine x_imul C dX0_payment_90 ?_
          refine x_iadd C dX0_payment_91 ?_
          refine x_iload C dX0_payment_92 (x := v7) rfl ?_
          refine x_bipush C dX0_payment_94 (v := (100 : Int32)) (by decide) ?_
          refine x_irem C dX0_payment_96 (by decide) ?_
          refine x_iadd C dX0_payment_97 ?_
          exact x_iret C dX0_payment_98 rfl
      · refine x_goto C dX0_payment_72 (tgt := 132) (by decide) ?_
        exact x_wk (L' := [none, some (.int p1), some (.int x2), none, none, none, none]) (And.intro rfl (And.intro rfl trivial)) (hK (x2) (M))
set_option maxHeartbeats 4000000 in
set_option maxRecDepth 20000 in
theorem c_bk_payment {l : Launch} {g : GG} {b : Nat} {R : Nat} (hR : isBnk R) (p1 : Int32) (M : Mem) : CT l g (wC b) (rmd 2) yX0_payment cX0_payment 7 (some .int) [.ref ((wC b).2.2.2 + R), .int p1] M finM (bk_payment R p1 M) := by
  refine CT.of rfl (Nat.le_of_ble_eq_true rfl) (catc rfl (catc rfl cat0)) (fun z C => ?_)
  have C : Cx z l g (wC b) (rmd 2) cX0_payment 7 RX0 (some .int) := C
  refine x_wk (L' := [some (.ref ((wC b).2.2.2 + R)), some (.int p1), none, none, none, none, none]) (And.intro rfl (And.intro rfl trivial)) ?_
  rw [bk_payment]
  refine x_iconst C dX0_payment_0 (v := (0 : Int32)) (by decide) ?_
  refine x_istoren C dX0_payment_1 (L' := [some (.ref ((wC b).2.2.2 + R)), some (.int p1), some (.int (0 : Int32)), none, none, none, none]) (ltb rfl) rfl ?_
  refine x_wk (L' := [some (.ref ((wC b).2.2.2 + R)), some (.int p1), some (.int (0 : Int32)), none, none, none, none]) (And.intro rfl (And.intro rfl (And.intro rfl trivial))) (w_bk_payment_L2 C hR p1   (fun M4 => ?_) FU ((0 : Int32)) M)
  refine x_iconst C dX0_payment_25 (v := (0 : Int32)) (by decide) ?_
  refine x_istoren C dX0_payment_26 (L' := [some (.ref ((wC b).2.2.2 + R)), some (.int p1), some (.int (0 : Int32)), none, none, none, none]) (ltb rfl) rfl ?_
  refine x_iconst C dX0_payment_27 (v := (0 : Int32)) (by decide) ?_
  refine x_istoren C dX0_payment_28 (L' := [some (.ref ((wC b).2.2.2 + R)), some (.int p1), some (.int (0 : Int32)), some (.int (0 : Int32)), none, none, none]) (ltb rfl) rfl ?_
  refine x_wk (L' := [some (.ref ((wC b).2.2.2 + R)), some (.int p1), some (.int (0 : Int32)), some (.int (0 : Int32)), none, none, none]) (And.intro rfl (And.intro rfl (And.intro rfl (And.intro rfl trivial)))) (w_bk_payment_L29 C hR p1   (fun v2_9 M11 => ?_) FU ((0 : Int32)) ((0 : Int32)) M4)
  refine x_iloadn C dX0_payment_132 (x := p1) rfl ?_
  refine x_iconst C dX0_payment_133 (v := (-1 : Int32)) (by decide) ?_
  refine x_icmpne C dX0_payment_134 (tgt := 141) (by decide) (fun _h => ?_) (fun _h => ?_)
  · refine x_iconst C dX0_payment_141 (v := (-1 : Int32)) (by decide) ?_
    exact x_iret C dX0_payment_142 rfl
  · refine x_iloadn C dX0_payment_137 (x := v2_9) rfl ?_
    refine x_goto C dX0_payment_138 (tgt := 142) (by decide) ?_
    exact x_iret C dX0_payment_142 rfl
def mv_prepareBeing_L7 (p1 : Int32) (p2 : Int32) (y3 : Int32) (K : Mem → Option Mem) : Nat → Int32 → Mem → Option Mem
  | 0, _, _ => none
  | fu + 1, x4, M => (if x4 < y3 then (if (y3 ||| x4) < (1024 : Int32) then chk (inb x4 1024) (chk (inb p1 10) (chk (inb (y3 ||| x4) 1024) (lt1 (wr M 76 (y3 ||| x4).toNatClampNeg ((M 76 x4.toNatClampNeg) + (M 9 p1.toNatClampNeg))) fun M1 => chk (inb x4 1024) (chk (inb (y3 ||| x4) 1024) (lt1 (wr M1 77 (y3 ||| x4).toNatClampNeg ((M1 77 x4.toNatClampNeg) + p2)) fun M2 => chk (inb x4 1024) (chk (inb p1 10) (chk (inb (y3 ||| x4) 1024) (lt1 (wr M2 78 (y3 ||| x4).toNatClampNeg ((M2 78 x4.toNatClampNeg) ||| (M2 13 p1.toNatClampNeg))) fun M3 => mv_prepareBeing_L7 p1 p2 y3 K fu ((x4 + (1 : Int32))) (M3))))))))) else K (M)) else K (M))
def mv_prepareBeing (p1 : Int32) (p2 : Int32) (M : Mem) : Option Mem := mv_prepareBeing_L7 p1 p2 (((1 : Int32) <<< (p1 &&& 31))) (fun M5 => some M5) FU ((0 : Int32)) M
set_option maxHeartbeats 4000000 in
set_option maxRecDepth 20000 in
theorem w_mv_prepareBeing_L7 {z : ZT} {l : Launch} {g : GG} {b : Nat} (C : Cx z l g (wC b) (rmd 1) cX2_prepareBeing 5 RX2 none) (p1 : Int32) (p2 : Int32) (y3 : Int32) {K : Mem → Option Mem} (hK : ∀ (M : Mem) , XG z g (wC b) 5 (ZQ z g (wC b) finV) 0 0 99 [none, none, none, none, none] [] M (K M)) : ∀ (fu : Nat) (x4 : Int32) (M : Mem), XG z g (wC b) 5 (ZQ z g (wC b) finV) 0 0 7 [some (.ref ((wC b).2.2.2 + 75)), some (.int p1), some (.int p2), some (.int y3), some (.int x4)] [] M (mv_prepareBeing_L7 p1 p2 y3 K fu x4 M) := by
  intro fu
  induction fu with
  | zero => intro x4 M; exact x_none
  | succ fu ih =>
    intro x4 M
    rw [mv_prepareBeing_L7]
    refine x_iload C dX2_prepareBeing_7 (x := x4) rfl ?_
    refine x_iloadn C dX2_prepareBeing_9 (x := y3) rfl ?_
    refine x_icmpge C dX2_prepareBeing_10 (tgt := 99) (by decide) (fun _h => ?_) (fun _h => ?_)
    · exact x_wk (L' := [none, none, none, none, none]) (trivial) (hK (M))
    · refine x_iloadn C dX2_prepareBeing_13 (x := y3) rfl ?_
      refine x_iload C dX2_prepareBeing_14 (x := x4) rfl ?_
      refine x_ior C dX2_prepareBeing_16 ?_
      refine x_sipush C dX2_prepareBeing_17 (v := (1024 : Int32)) (by decide) ?_
      refine x_icmpge C dX2_prepareBeing_20 (tgt := 99) (by decide) (fun _h => ?_) (fun _h => ?_)
      · exact x_wk (L' := [none, none, none, none, none]) (trivial) (hK (M))
      · refine x_aloadn C dX2_prepareBeing_23 rfl ?_
        refine x_getR C fl_X2_18 cl_2 (76) nC75 kC75 fC75_4 dX2_prepareBeing_24 ?_
        refine x_iloadn C dX2_prepareBeing_27 (x := y3) rfl ?_
        refine x_iload C dX2_prepareBeing_28 (x := x4) rfl ?_
        refine x_ior C dX2_prepareBeing_30 ?_
        refine x_aloadn C dX2_prepareBeing_31 rfl ?_
        refine x_getR C fl_X2_18 cl_2 (76) nC75 kC75 fC75_4 dX2_prepareBeing_32 ?_
        refine x_iload C dX2_prepareBeing_35 (x := x4) rfl ?_
        refine x_iald C nC76 kC76 dX2_prepareBeing_37 ?_
        refine x_aloadn C dX2_prepareBeing_38 rfl ?_
        refine x_getR C fl_X2_41 cl_2 (6) nC75 kC75 fC75_0 dX2_prepareBeing_39 ?_
        refine x_getR C fl_X2_75 cl_5 (9) nC6 kC6 fC6_4 dX2_prepareBeing_42 ?_
        refine x_iloadn C dX2_prepareBeing_45 (x := p1) rfl ?_
        refine x_iald C nC9 kC9 dX2_prepareBeing_46 ?_
        refine x_iadd C dX2_prepareBeing_47 ?_
        refine x_iast C nC76 kC76 dX2_prepareBeing_48 ?_
        refine x_ltM (fun M1 => ?_)
        refine x_aloadn C dX2_prepareBeing_49 rfl ?_
        refine x_getR C fl_X2_22 cl_2 (77) nC75 kC75 fC75_5 dX2_prepareBeing_50 ?_
        refine x_iloadn C dX2_prepareBeing_53 (x := y3) rfl ?_
        refine x_iload C dX2_prepareBeing_54 (x := x4) rfl ?_
        refine x_ior C dX2_prepareBeing_56 ?_
        refine x_aloadn C dX2_prepareBeing_57 rfl ?_
        refine x_getR C fl_X2_22 cl_2 (77) nC75 kC75 fC75_5 dX2_prepareBeing_58 ?_
        refine x_iload C dX2_prepareBeing_61 (x := x4) rfl ?_
        refine x_iald C nC77 kC77 dX2_prepareBeing_63 ?_
        refine x_iloadn C dX2_prepareBeing_64 (x := p2) rfl ?_
        refine x_iadd C dX2_prepareBeing_65 ?_
        refine x_iast C nC77 kC77 dX2_prepareBeing_66 ?_
        refine x_ltM (fun M2 => ?_)
        refine x_aloadn C dX2_prepareBeing_67 rfl ?_
        refine x_getR C fl_X2_25 cl_2 (78) nC75 kC75 fC75_6 dX2_prepareBeing_68 ?_
        refine x_iloadn C dX2_prepareBeing_71 (x := y3) rfl ?_
        refine x_iload C dX2_prepareBeing_72 (x := x4) rfl ?_
        refine x_ior C dX2_prepareBeing_74 ?_
        refine x_aloadn C dX2_prepareBeing_75 rfl ?_
        refine x_getR C fl_X2_25 cl_2 (78) nC75 kC75 fC75_6 dX2_prepareBeing_76 ?_
        refine x_iload C dX2_prepareBeing_79 (x := x4) rfl ?_
        refine x_iald C nC78 kC78 dX2_prepareBeing_81 ?_
        refine x_aloadn C dX2_prepareBeing_82 rfl ?_
        refine x_getR C fl_X2_41 cl_2 (6) nC75 kC75 fC75_0 dX2_prepareBeing_83 ?_
        refine x_getR C fl_X2_78 cl_5 (13) nC6 kC6 fC6_14 dX2_prepareBeing_86 ?_
        refine x_iloadn C dX2_prepareBeing_89 (x := p1) rfl ?_
        refine x_iald C nC13 kC13 dX2_prepareBeing_90 ?_
        refine x_ior C dX2_prepareBeing_91 ?_
        refine x_iast C nC78 kC78 dX2_prepareBeing_92 ?_
        refine x_ltM (fun M3 => ?_)
        refine x_iinc C dX2_prepareBeing_93 (v := (x4 + (1 : Int32))) rfl rfl (L' := [some (.ref ((wC b).2.2.2 + 75)), some (.int p1), some (.int p2), some (.int y3), some (.int (x4 + (1 : Int32)))]) rfl ?_
        refine x_goto C dX2_prepareBeing_96 (tgt := 7) (by decide) ?_
        exact x_wk (L' := [some (.ref ((wC b).2.2.2 + 75)), some (.int p1), some (.int p2), some (.int y3), some (.int (x4 + (1 : Int32)))]) (And.intro rfl (And.intro rfl (And.intro rfl (And.intro rfl (And.intro rfl trivial))))) (ih ((x4 + (1 : Int32))) (M3))
set_option maxHeartbeats 4000000 in
set_option maxRecDepth 20000 in
theorem c_mv_prepareBeing {l : Launch} {g : GG} {b : Nat} (p1 : Int32) (p2 : Int32) (M : Mem) : CT l g (wC b) (rmd 1) yX2_prepareBeing cX2_prepareBeing 5 none [.ref ((wC b).2.2.2 + 75), .int p1, .int p2] M finV (mv_prepareBeing p1 p2 M) := by
  refine CT.of rfl (Nat.le_of_ble_eq_true rfl) (catc rfl (catc rfl (catc rfl cat0))) (fun z C => ?_)
  have C : Cx z l g (wC b) (rmd 1) cX2_prepareBeing 5 RX2 none := C
  refine x_wk (L' := [some (.ref ((wC b).2.2.2 + 75)), some (.int p1), some (.int p2), none, none]) (And.intro rfl (And.intro rfl (And.intro rfl trivial))) ?_
  rw [mv_prepareBeing]
  refine x_iconst C dX2_prepareBeing_0 (v := (1 : Int32)) (by decide) ?_
  refine x_iloadn C dX2_prepareBeing_1 (x := p1) rfl ?_
  refine x_ishl C dX2_prepareBeing_2 ?_
  refine x_istoren C dX2_prepareBeing_3 (L' := [some (.ref ((wC b).2.2.2 + 75)), some (.int p1), some (.int p2), some (.int ((1 : Int32) <<< (p1 &&& 31))), none]) (ltb rfl) rfl ?_
  refine x_iconst C dX2_prepareBeing_4 (v := (0 : Int32)) (by decide) ?_
  refine x_istore C dX2_prepareBeing_5 (L' := [some (.ref ((wC b).2.2.2 + 75)), some (.int p1), some (.int p2), some (.int ((1 : Int32) <<< (p1 &&& 31))), some (.int (0 : Int32))]) (ltb rfl) rfl ?_
  refine x_wk (L' := [some (.ref ((wC b).2.2.2 + 75)), some (.int p1), some (.int p2), some (.int ((1 : Int32) <<< (p1 &&& 31))), some (.int (0 : Int32))]) (And.intro rfl (And.intro rfl (And.intro rfl (And.intro rfl (And.intro rfl trivial))))) (w_mv_prepareBeing_L7 C p1 p2 (((1 : Int32) <<< (p1 &&& 31)))  (fun M5 => ?_) FU ((0 : Int32)) M)
  exact x_vret C dX2_prepareBeing_99 rfl
def mv_prepare_L32  (K : Mem → Option Mem) : Nat → Int32 → Mem → Option Mem
  | 0, _, _ => none
  | fu + 1, x1, M => (if x1 < (M 6 1) then (bk_forceOf 30 (x1) 6 M).bind fun v5 => (mv_prepareBeing (x1) (v5) M).bind fun M6 => mv_prepare_L32 K fu ((x1 + (1 : Int32))) (M6) else K (M))
def mv_prepare_L68  (K : Mem → Option Mem) : Nat → Int32 → Mem → Option Mem
  | 0, _, _ => none
  | fu + 1, x1, M => (if (M 75 2) < x1 then K (M) else (if x1 < (1024 : Int32) then (rv_isPeaceful 6 (x1) M).bind fun v9 => chk (isB v9) (chk (inb x1 1024) (lt1 (wr M 79 x1.toNatClampNeg v9) fun M10 => mv_prepare_L68 K fu ((x1 + (1 : Int32))) (M10))) else K (M)))
def mv_prepare (M : Mem) : Option Mem := (rv_everyone 6 M).bind fun v1 => lt1 (wr M 75 2 v1) fun M2 => (bk_hour 30 M2).bind fun v3 => chk (inb v3 24) (lt1 (wr M2 75 3 (M2 10 v3.toNatClampNeg)) fun M4 => mv_prepare_L32 (fun M8 => mv_prepare_L68 (fun M12 => some M12) FU ((0 : Int32)) M8) FU ((0 : Int32)) M4)
set_option maxHeartbeats 4000000 in
set_option maxRecDepth 20000 in
theorem w_mv_prepare_L32 {z : ZT} {l : Launch} {g : GG} {b : Nat} (C : Cx z l g (wC b) (rmd 3) cX2_prepare 2 RX2 none)  {K : Mem → Option Mem} (hK : ∀ (M : Mem) , XG z g (wC b) 2 (ZQ z g (wC b) finV) 0 0 66 [some (.ref ((wC b).2.2.2 + 75)), none] [] M (K M)) : ∀ (fu : Nat) (x1 : Int32) (M : Mem), XG z g (wC b) 2 (ZQ z g (wC b) finV) 0 0 32 [some (.ref ((wC b).2.2.2 + 75)), some (.int x1)] [] M (mv_prepare_L32 K fu x1 M) := by
  intro fu
  induction fu with
  | zero => intro x1 M; exact x_none
  | succ fu ih =>
    intro x1 M
    rw [mv_prepare_L32]
    refine x_iloadn C dX2_prepare_32 (x := x1) rfl ?_
    refine x_aloadn C dX2_prepare_33 rfl ?_
    refine x_getR C fl_X2_41 cl_2 (6) nC75 kC75 fC75_0 dX2_prepare_34 ?_
    refine x_getI C fl_X2_61 cl_5 nC6 kC6 fC6_1 dX2_prepare_37 ?_
    refine x_icmpge C dX2_prepare_40 (tgt := 66) (by decide) (fun _h => ?_) (fun _h => ?_)
    · exact x_wk (L' := [some (.ref ((wC b).2.2.2 + 75)), none]) (And.intro rfl trivial) (hK (M))
    · refine x_aloadn C dX2_prepare_43 rfl ?_
      refine x_iloadn C dX2_prepare_44 (x := x1) rfl ?_
      refine x_aloadn C dX2_prepare_45 rfl ?_
      refine x_getR C fl_X2_45 cl_2 (30) nC75 kC75 fC75_1 dX2_prepare_46 ?_
      refine x_iloadn C dX2_prepare_49 (x := x1) rfl ?_
      refine x_aloadn C dX2_prepare_50 rfl ?_
      refine x_getR C fl_X2_41 cl_2 (6) nC75 kC75 fC75_0 dX2_prepare_51 ?_
      refine x_Vi (st := [.int x1, .ref ((wC b).2.2.2 + 75)]) C (c_bk_forceOf (Or.inl rfl) (Or.inl rfl) (x1) M) lk_X2_64 nC30 kC30 ⟨_, _, rfl⟩ rfl rfl (Nat.le_of_ble_eq_true rfl) (rmok_d (by decide) (by decide)) ⟨Nat.zero_le _, Nat.zero_le _⟩ dX2_prepare_54 (fun v5 => ?_)
      refine x_Vv (st := []) C (c_mv_prepareBeing  (x1) (v5) M) lk_X2_67 nC75 kC75 ⟨_, _, rfl⟩ rfl rfl (Nat.le_of_ble_eq_true rfl) (rmok_d (by decide) (by decide)) ⟨Nat.zero_le _, Nat.zero_le _⟩ dX2_prepare_57 (fun M6 => ?_)
      refine x_iinc C dX2_prepare_60 (v := (x1 + (1 : Int32))) rfl rfl (L' := [some (.ref ((wC b).2.2.2 + 75)), some (.int (x1 + (1 : Int32)))]) rfl ?_
      refine x_goto C dX2_prepare_63 (tgt := 32) (by decide) ?_
      exact x_wk (L' := [some (.ref ((wC b).2.2.2 + 75)), some (.int (x1 + (1 : Int32)))]) (And.intro rfl (And.intro rfl trivial)) (ih ((x1 + (1 : Int32))) (M6))
set_option maxHeartbeats 4000000 in
set_option maxRecDepth 20000 in
theorem w_mv_prepare_L68 {z : ZT} {l : Launch} {g : GG} {b : Nat} (C : Cx z l g (wC b) (rmd 3) cX2_prepare 2 RX2 none)  {K : Mem → Option Mem} (hK : ∀ (M : Mem) , XG z g (wC b) 2 (ZQ z g (wC b) finV) 0 0 103 [none, none] [] M (K M)) : ∀ (fu : Nat) (x1 : Int32) (M : Mem), XG z g (wC b) 2 (ZQ z g (wC b) finV) 0 0 68 [some (.ref ((wC b).2.2.2 + 75)), some (.int x1)] [] M (mv_prepare_L68 K fu x1 M) := by
  intro fu
  induction fu with
  | zero => intro x1 M; exact x_none
  | succ fu ih =>
    intro x1 M
    rw [mv_prepare_L68]
    refine x_iloadn C dX2_prepare_68 (x := x1) rfl ?_
    refine x_aloadn C dX2_prepare_69 rfl ?_
    refine x_getI C fl_X2_9 cl_2 nC75 kC75 fC75_2 dX2_prepare_70 ?_
    refine x_icmpgt C dX2_prepare_73 (tgt := 103) (by decide) (fun _h => ?_) (fun _h => ?_)
    · exact x_wk (L' := [none, none]) (trivial) (hK (M))
    · refine x_iloadn C dX2_prepare_76 (x := x1) rfl ?_
      refine x_sipush C dX2_prepare_77 (v := (1024 : Int32)) (by decide) ?_
      refine x_icmpge C dX2_prepare_80 (tgt := 103) (by decide) (fun _h => ?_) (fun _h => ?_)
      · exact x_wk (L' := [none, none]) (trivial) (hK (M))
      · refine x_aloadn C dX2_prepare_83 rfl ?_
        refine x_getR C fl_X2_28 cl_2 (79) nC75 kC75 fC75_7 dX2_prepare_84 ?_
        refine x_iloadn C dX2_prepare_87 (x := x1) rfl ?_
        refine x_aloadn C dX2_prepare_88 rfl ?_
        refine x_getR C fl_X2_41 cl_2 (6) nC75 kC75 fC75_0 dX2_prepare_89 ?_
        refine x_iloadn C dX2_prepare_92 (x := x1) rfl ?_
        refine x_Vi (st := [.int x1, .ref ((wC b).2.2.2 + 79)]) C (c_rv_isPeaceful (Or.inl rfl) (x1) M) lk_X2_71 nC6 kC6 ⟨_, _, rfl⟩ rfl rfl (Nat.le_of_ble_eq_true rfl) (rmok_d (by decide) (by decide)) ⟨Nat.zero_le _, Nat.zero_le _⟩ dX2_prepare_93 (fun v9 => ?_)
        refine x_zastc C nC79 kC79 dX2_prepare_96 ?_
        refine x_ltM (fun M10 => ?_)
        refine x_iinc C dX2_prepare_97 (v := (x1 + (1 : Int32))) rfl rfl (L' := [some (.ref ((wC b).2.2.2 + 75)), some (.int (x1 + (1 : Int32)))]) rfl ?_
        refine x_goto C dX2_prepare_100 (tgt := 68) (by decide) ?_
        exact x_wk (L' := [some (.ref ((wC b).2.2.2 + 75)), some (.int (x1 + (1 : Int32)))]) (And.intro rfl (And.intro rfl trivial)) (ih ((x1 + (1 : Int32))) (M10))
set_option maxHeartbeats 4000000 in
set_option maxRecDepth 20000 in
theorem c_mv_prepare {l : Launch} {g : GG} {b : Nat} (M : Mem) : CT l g (wC b) (rmd 3) yX2_prepare cX2_prepare 2 none [.ref ((wC b).2.2.2 + 75)] M finV (mv_prepare  M) := by
  refine CT.of rfl (Nat.le_of_ble_eq_true rfl) (catc rfl cat0) (fun z C => ?_)
  have C : Cx z l g (wC b) (rmd 3) cX2_prepare 2 RX2 none := C
  refine x_wk (L' := [some (.ref ((wC b).2.2.2 + 75)), none]) (And.intro rfl trivial) ?_
  rw [mv_prepare]
  refine x_aloadn C dX2_prepare_0 rfl ?_
  refine x_aloadn C dX2_prepare_1 rfl ?_
  refine x_getR C fl_X2_41 cl_2 (6) nC75 kC75 fC75_0 dX2_prepare_2 ?_
  refine x_Vi (st := [.ref ((wC b).2.2.2 + 75)]) C (c_rv_everyone (Or.inl rfl)  M) lk_X2_49 nC6 kC6 ⟨_, _, rfl⟩ rfl rfl (Nat.le_of_ble_eq_true rfl) (rmok_d (by decide) (by decide)) ⟨Nat.zero_le _, Nat.zero_le _⟩ dX2_prepare_5 (fun v1 => ?_)
  refine x_putI C fl_X2_9 cl_2 fint_2_2 nC75 kC75 fC75_2 dX2_prepare_8 ?_
  refine x_ltM (fun M2 => ?_)
  refine x_aloadn C dX2_prepare_11 rfl ?_
  refine x_aloadn C dX2_prepare_12 rfl ?_
  refine x_getR C fl_X2_41 cl_2 (6) nC75 kC75 fC75_0 dX2_prepare_13 ?_
  refine x_getR C fl_X2_54 cl_5 (10) nC6 kC6 fC6_9 dX2_prepare_16 ?_
  refine x_aloadn C dX2_prepare_19 rfl ?_
  refine x_getR C fl_X2_45 cl_2 (30) nC75 kC75 fC75_1 dX2_prepare_20 ?_
  refine x_Vi (st := [.ref ((wC b).2.2.2 + 10), .ref ((wC b).2.2.2 + 75)]) C (c_bk_hour (Or.inl rfl)  M2) lk_X2_56 nC30 kC30 ⟨_, _, rfl⟩ rfl rfl (Nat.le_of_ble_eq_true rfl) (rmok_d (by decide) (by decide)) ⟨Nat.zero_le _, Nat.zero_le _⟩ dX2_prepare_23 (fun v3 => ?_)
  refine x_iald C nC10 kC10 dX2_prepare_26 ?_
  refine x_putI C fl_X2_15 cl_2 fint_2_3 nC75 kC75 fC75_3 dX2_prepare_27 ?_
  refine x_ltM (fun M4 => ?_)
  refine x_iconst C dX2_prepare_30 (v := (0 : Int32)) (by decide) ?_
  refine x_istoren C dX2_prepare_31 (L' := [some (.ref ((wC b).2.2.2 + 75)), some (.int (0 : Int32))]) (ltb rfl) rfl ?_
  refine x_wk (L' := [some (.ref ((wC b).2.2.2 + 75)), some (.int (0 : Int32))]) (And.intro rfl (And.intro rfl trivial)) (w_mv_prepare_L32 C    (fun M8 => ?_) FU ((0 : Int32)) M4)
  refine x_iconst C dX2_prepare_66 (v := (0 : Int32)) (by decide) ?_
  refine x_istoren C dX2_prepare_67 (L' := [some (.ref ((wC b).2.2.2 + 75)), some (.int (0 : Int32))]) (ltb rfl) rfl ?_
  refine x_wk (L' := [some (.ref ((wC b).2.2.2 + 75)), some (.int (0 : Int32))]) (And.intro rfl (And.intro rfl trivial)) (w_mv_prepare_L68 C    (fun M12 => ?_) FU ((0 : Int32)) M8)
  exact x_vret C dX2_prepare_103 rfl
def mv_needFor (p1 : Int32) (M : Mem) : Option Int32 := some (((M 75 3) + (((p1 + (M 6 7)) + (19 : Int32)) / (20 : Int32))))
set_option maxHeartbeats 4000000 in
set_option maxRecDepth 20000 in
theorem c_mv_needFor {l : Launch} {g : GG} {b : Nat} (p1 : Int32) (M : Mem) : CT l g (wC b) (rmd 1) yX2_needFor cX2_needFor 2 (some .int) [.ref ((wC b).2.2.2 + 75), .int p1] M (finI M) (mv_needFor p1 M) := by
  refine CT.of rfl (Nat.le_of_ble_eq_true rfl) (catc rfl (catc rfl cat0)) (fun z C => ?_)
  have C : Cx z l g (wC b) (rmd 1) cX2_needFor 2 RX2 (some .int) := C
  refine x_wk (L' := [some (.ref ((wC b).2.2.2 + 75)), some (.int p1)]) (And.intro rfl (And.intro rfl trivial)) ?_
  rw [mv_needFor]
  refine x_aloadn C dX2_needFor_0 rfl ?_
  refine x_getI C fl_X2_15 cl_2 nC75 kC75 fC75_3 dX2_needFor_1 ?_
  refine x_iloadn C dX2_needFor_4 (x := p1) rfl ?_
  refine x_aloadn C dX2_needFor_5 rfl ?_
  refine x_getR C fl_X2_41 cl_2 (6) nC75 kC75 fC75_0 dX2_needFor_6 ?_
  refine x_getI C fl_X2_81 cl_5 nC6 kC6 fC6_7 dX2_needFor_9 ?_
  refine x_iadd C dX2_needFor_12 ?_
  refine x_bipush C dX2_needFor_13 (v := (19 : Int32)) (by decide) ?_
  refine x_iadd C dX2_needFor_15 ?_
  refine x_bipush C dX2_needFor_16 (v := (20 : Int32)) (by decide) ?_
  refine x_idiv C dX2_needFor_18 (by decide) ?_
  refine x_iadd C dX2_needFor_19 ?_
  exact x_iret C dX2_needFor_20 rfl
def mv_ropeBears (p1 : Int32) (M : Mem) : Option Int32 := (if (M 6 6) < (p1 + (M 6 7)) then some ((0 : Int32)) else some ((1 : Int32)))
set_option maxHeartbeats 4000000 in
set_option maxRecDepth 20000 in
theorem c_mv_ropeBears {l : Launch} {g : GG} {b : Nat} (p1 : Int32) (M : Mem) : CT l g (wC b) (rmd 1) yX2_ropeBears cX2_ropeBears 2 (some .boolean) [.ref ((wC b).2.2.2 + 75), .int p1] M (finI M) (mv_ropeBears p1 M) := by
  refine CT.of rfl (Nat.le_of_ble_eq_true rfl) (catc rfl (catc rfl cat0)) (fun z C => ?_)
  have C : Cx z l g (wC b) (rmd 1) cX2_ropeBears 2 RX2 (some .boolean) := C
  refine x_wk (L' := [some (.ref ((wC b).2.2.2 + 75)), some (.int p1)]) (And.intro rfl (And.intro rfl trivial)) ?_
  rw [mv_ropeBears]
  refine x_iloadn C dX2_ropeBears_0 (x := p1) rfl ?_
  refine x_aloadn C dX2_ropeBears_1 rfl ?_
  refine x_getR C fl_X2_41 cl_2 (6) nC75 kC75 fC75_0 dX2_ropeBears_2 ?_
  refine x_getI C fl_X2_81 cl_5 nC6 kC6 fC6_7 dX2_ropeBears_5 ?_
  refine x_iadd C dX2_ropeBears_8 ?_
  refine x_aloadn C dX2_ropeBears_9 rfl ?_
  refine x_getR C fl_X2_41 cl_2 (6) nC75 kC75 fC75_0 dX2_ropeBears_10 ?_
  refine x_getI C fl_X2_84 cl_5 nC6 kC6 fC6_6 dX2_ropeBears_13 ?_
  refine x_icmpgt C dX2_ropeBears_16 (tgt := 23) (by decide) (fun _h => ?_) (fun _h => ?_)
  · refine x_iconst C dX2_ropeBears_23 (v := (0 : Int32)) (by decide) ?_
    exact x_zret C dX2_ropeBears_24 rfl rfl
  · refine x_iconst C dX2_ropeBears_19 (v := (1 : Int32)) (by decide) ?_
    refine x_goto C dX2_ropeBears_20 (tgt := 24) (by decide) ?_
    exact x_zret C dX2_ropeBears_24 rfl rfl
def mv_minutesFor (p1 : Int32) (p2 : Int32) (M : Mem) : Option Int32 := (if 0 < p2 then chk (!(p2 == 0)) (lt1 ((((((M 6 8) * p1) + p2) - (1 : Int32)) / p2)) fun v1 => (if v1 < (1 : Int32) then some ((1 : Int32)) else some (v1))) else some ((-1 : Int32)))
set_option maxHeartbeats 4000000 in
set_option maxRecDepth 20000 in
theorem c_mv_minutesFor {l : Launch} {g : GG} {b : Nat} (p1 : Int32) (p2 : Int32) (M : Mem) : CT l g (wC b) (rmd 1) yX2_minutesFor cX2_minutesFor 4 (some .int) [.ref ((wC b).2.2.2 + 75), .int p1, .int p2] M (finI M) (mv_minutesFor p1 p2 M) := by
  refine CT.of rfl (Nat.le_of_ble_eq_true rfl) (catc rfl (catc rfl (catc rfl cat0))) (fun z C => ?_)
  have C : Cx z l g (wC b) (rmd 1) cX2_minutesFor 4 RX2 (some .int) := C
  refine x_wk (L' := [some (.ref ((wC b).2.2.2 + 75)), some (.int p1), some (.int p2), none]) (And.intro rfl (And.intro rfl (And.intro rfl trivial))) ?_
  rw [mv_minutesFor]
  refine x_iloadn C dX2_minutesFor_0 (x := p2) rfl ?_
  refine x_ifgt C dX2_minutesFor_1 (tgt := 6) (by decide) (fun _h => ?_) (fun _h => ?_)
  · refine x_aloadn C dX2_minutesFor_6 rfl ?_
    refine x_getR C fl_X2_41 cl_2 (6) nC75 kC75 fC75_0 dX2_minutesFor_7 ?_
    refine x_getI C fl_X2_87 cl_5 nC6 kC6 fC6_8 dX2_minutesFor_10 ?_
    refine x_iloadn C dX2_minutesFor_13 (x := p1) rfl ?_
    refine x_imul C dX2_minutesFor_14 ?_
    refine x_iloadn C dX2_minutesFor_15 (x := p2) rfl ?_
    refine x_iadd C dX2_minutesFor_16 ?_
    refine x_iconst C dX2_minutesFor_17 (v := (1 : Int32)) (by decide) ?_
    refine x_isub C dX2_minutesFor_18 ?_
    refine x_iloadn C dX2_minutesFor_19 (x := p2) rfl ?_
    refine x_idivc C dX2_minutesFor_20 ?_
    refine x_lti (fun v1 => ?_)
    refine x_istoren C dX2_minutesFor_21 (L' := [some (.ref ((wC b).2.2.2 + 75)), some (.int p1), some (.int p2), some (.int v1)]) (ltb rfl) rfl ?_
    refine x_iloadn C dX2_minutesFor_22 (x := v1) rfl ?_
    refine x_iconst C dX2_minutesFor_23 (v := (1 : Int32)) (by decide) ?_
    refine x_icmpge C dX2_minutesFor_24 (tgt := 31) (by decide) (fun _h => ?_) (fun _h => ?_)
    · refine x_iloadn C dX2_minutesFor_31 (x := v1) rfl ?_
      exact x_iret C dX2_minutesFor_32 rfl
    · refine x_iconst C dX2_minutesFor_27 (v := (1 : Int32)) (by decide) ?_
      refine x_goto C dX2_minutesFor_28 (tgt := 32) (by decide) ?_
      exact x_iret C dX2_minutesFor_32 rfl
  · refine x_iconst C dX2_minutesFor_4 (v := (-1 : Int32)) (by decide) ?_
    exact x_iret C dX2_minutesFor_5 rfl
def mv_here (p1 : Int32) (M : Mem) : Option Int32 := (if (p1 &&& (1 : Int32)) = 0 then some ((((p1 >>> ((1 : Int32) &&& 31)) ^^^ (-1 : Int32)) &&& (M 75 2))) else some (((p1 >>> ((1 : Int32) &&& 31)) &&& (M 75 2))))
set_option maxHeartbeats 4000000 in
set_option maxRecDepth 20000 in
theorem c_mv_here {l : Launch} {g : GG} {b : Nat} (p1 : Int32) (M : Mem) : CT l g (wC b) (rmd 1) yX2_here cX2_here 2 (some .int) [.ref ((wC b).2.2.2 + 75), .int p1] M (finI M) (mv_here p1 M) := by
  refine CT.of rfl (Nat.le_of_ble_eq_true rfl) (catc rfl (catc rfl cat0)) (fun z C => ?_)
  have C : Cx z l g (wC b) (rmd 1) cX2_here 2 RX2 (some .int) := C
  refine x_wk (L' := [some (.ref ((wC b).2.2.2 + 75)), some (.int p1)]) (And.intro rfl (And.intro rfl trivial)) ?_
  rw [mv_here]
  refine x_iloadn C dX2_here_0 (x := p1) rfl ?_
  refine x_iconst C dX2_here_1 (v := (1 : Int32)) (by decide) ?_
  refine x_iand C dX2_here_2 ?_
  refine x_ifeq C dX2_here_3 (tgt := 12) (by decide) (fun _h => ?_) (fun _h => ?_)
  · refine x_iloadn C dX2_here_12 (x := p1) rfl ?_
    refine x_iconst C dX2_here_13 (v := (1 : Int32)) (by decide) ?_
    refine x_ishr C dX2_here_14 ?_
    refine x_iconst C dX2_here_15 (v := (-1 : Int32)) (by decide) ?_
    refine x_ixor C dX2_here_16 ?_
    refine x_aloadn C dX2_here_17 rfl ?_
    refine x_getI C fl_X2_9 cl_2 nC75 kC75 fC75_2 dX2_here_18 ?_
    refine x_iand C dX2_here_21 ?_
    exact x_iret C dX2_here_22 rfl
  · refine x_iloadn C dX2_here_6 (x := p1) rfl ?_
    refine x_iconst C dX2_here_7 (v := (1 : Int32)) (by decide) ?_
    refine x_ishr C dX2_here_8 ?_
    refine x_goto C dX2_here_9 (tgt := 17) (by decide) ?_
    refine x_aloadn C dX2_here_17 rfl ?_
    refine x_getI C fl_X2_9 cl_2 nC75 kC75 fC75_2 dX2_here_18 ?_
    refine x_iand C dX2_here_21 ?_
    exact x_iret C dX2_here_22 rfl
def mv_keepsPeace (p1 : Int32) (p2 : Int32) (p3 : Int32) (M : Mem) : Option Int32 := chk (inb (p1 &&& (p3 ^^^ (-1 : Int32))) 1024) ((if (M 79 (p1 &&& (p3 ^^^ (-1 : Int32))).toNatClampNeg) = 0 then some ((0 : Int32)) else chk (inb p2 1024) ((if (M 79 p2.toNatClampNeg) = 0 then some ((0 : Int32)) else chk (inb (p2 ||| p3) 1024) ((if (M 79 (p2 ||| p3).toNatClampNeg) = 0 then some ((0 : Int32)) else some ((1 : Int32))))))))
set_option maxHeartbeats 4000000 in
set_option maxRecDepth 20000 in
theorem c_mv_keepsPeace {l : Launch} {g : GG} {b : Nat} (p1 : Int32) (p2 : Int32) (p3 : Int32) (M : Mem) : CT l g (wC b) (rmd 1) yX2_keepsPeace cX2_keepsPeace 4 (some .boolean) [.ref ((wC b).2.2.2 + 75), .int p1, .int p2, .int p3] M (finI M) (mv_keepsPeace p1 p2 p3 M) := by
  refine CT.of rfl (Nat.le_of_ble_eq_true rfl) (catc rfl (catc rfl (catc rfl (catc rfl cat0)))) (fun z C => ?_)
  have C : Cx z l g (wC b) (rmd 1) cX2_keepsPeace 4 RX2 (some .boolean) := C
  refine x_wk (L' := [some (.ref ((wC b).2.2.2 + 75)), some (.int p1), some (.int p2), some (.int p3)]) (And.intro rfl (And.intro rfl (And.intro rfl (And.intro rfl trivial)))) ?_
  rw [mv_keepsPeace]
  refine x_aloadn C dX2_keepsPeace_0 rfl ?_
  refine x_getR C fl_X2_28 cl_2 (79) nC75 kC75 fC75_7 dX2_keepsPeace_1 ?_
  refine x_iloadn C dX2_keepsPeace_4 (x := p1) rfl ?_
  refine x_iloadn C dX2_keepsPeace_5 (x := p3) rfl ?_
  refine x_iconst C dX2_keepsPeace_6 (v := (-1 : Int32)) (by decide) ?_
  refine x_ixor C dX2_keepsPeace_7 ?_
  refine x_iand C dX2_keepsPeace_8 ?_
  refine x_zald C nC79 kC79 dX2_keepsPeace_9 ?_
  refine x_ifeq C dX2_keepsPeace_10 (tgt := 37) (by decide) (fun _h => ?_) (fun _h => ?_)
  · refine x_iconst C dX2_keepsPeace_37 (v := (0 : Int32)) (by decide) ?_
    exact x_zret C dX2_keepsPeace_38 rfl rfl
  · refine x_aloadn C dX2_keepsPeace_13 rfl ?_
    refine x_getR C fl_X2_28 cl_2 (79) nC75 kC75 fC75_7 dX2_keepsPeace_14 ?_
    refine x_iloadn C dX2_keepsPeace_17 (x := p2) rfl ?_
    refine x_zald C nC79 kC79 dX2_keepsPeace_18 ?_
    refine x_ifeq C dX2_keepsPeace_19 (tgt := 37) (by decide) (fun _h => ?_) (fun _h => ?_)
    · refine x_iconst C dX2_keepsPeace_37 (v := (0 : Int32)) (by decide) ?_
      exact x_zret C dX2_keepsPeace_38 rfl rfl
    · refine x_aloadn C dX2_keepsPeace_22 rfl ?_
      refine x_getR C fl_X2_28 cl_2 (79) nC75 kC75 fC75_7 dX2_keepsPeace_23 ?_
      refine x_iloadn C dX2_keepsPeace_26 (x := p2) rfl ?_
      refine x_iloadn C dX2_keepsPeace_27 (x := p3) rfl ?_
      refine x_ior C dX2_keepsPeace_28 ?_
      refine x_zald C nC79 kC79 dX2_keepsPeace_29 ?_
      refine x_ifeq C dX2_keepsPeace_30 (tgt := 37) (by decide) (fun _h => ?_) (fun _h => ?_)
      · refine x_iconst C dX2_keepsPeace_37 (v := (0 : Int32)) (by decide) ?_
        exact x_zret C dX2_keepsPeace_38 rfl rfl
      · refine x_iconst C dX2_keepsPeace_33 (v := (1 : Int32)) (by decide) ?_
        refine x_goto C dX2_keepsPeace_34 (tgt := 38) (by decide) ?_
        exact x_zret C dX2_keepsPeace_38 rfl rfl
def mv_crossing (p1 : Int32) (p2 : Int32) (p3 : Int32) (M : Mem) : Option Int32 := (mv_here (p1) M).bind fun v1 => (if (p2 &&& (v1 ^^^ (-1 : Int32))) = 0 then (if (p3 &&& (((M 75 2) &&& (v1 ^^^ (-1 : Int32))) ^^^ (-1 : Int32))) = 0 then chk (inb p2 1024) ((mv_needFor ((M 76 p2.toNatClampNeg)) M).bind fun v2 => chk (inb p3 1024) (chk (inb p2 1024) ((mv_ropeBears ((M 76 p2.toNatClampNeg)) M).bind fun v3 => (if v3 = 0 then some ((-1 : Int32)) else (if (M 77 p3.toNatClampNeg) < v2 then some ((-1 : Int32)) else chk (inb p2 1024) ((if ((M 78 p2.toNatClampNeg) &&& (p2 ^^^ (-1 : Int32))) = 0 then (mv_keepsPeace (v1) (((M 75 2) &&& (v1 ^^^ (-1 : Int32)))) (p2) M).bind fun v4 => (if v4 = 0 then some ((-1 : Int32)) else (mv_minutesFor (v2) ((M 77 p3.toNatClampNeg)) M).bind fun v5 => some (v5)) else some ((-1 : Int32))))))))) else some ((-1 : Int32))) else some ((-1 : Int32)))
set_option maxHeartbeats 4000000 in
set_option maxRecDepth 20000 in
theorem c_mv_crossing {l : Launch} {g : GG} {b : Nat} (p1 : Int32) (p2 : Int32) (p3 : Int32) (M : Mem) : CT l g (wC b) (rmd 2) yX2_crossing cX2_crossing 8 (some .int) [.ref ((wC b).2.2.2 + 75), .int p1, .int p2, .int p3] M (finI M) (mv_crossing p1 p2 p3 M) := by
  refine CT.of rfl (Nat.le_of_ble_eq_true rfl) (catc rfl (catc rfl (catc rfl (catc rfl cat0)))) (fun z C => ?_)
  have C : Cx z l g (wC b) (rmd 2) cX2_crossing 8 RX2 (some .int) := C
  refine x_wk (L' := [some (.ref ((wC b).2.2.2 + 75)), some (.int p1), some (.int p2), some (.int p3), none, none, none, none]) (And.intro rfl (And.intro rfl (And.intro rfl (And.intro rfl trivial)))) ?_
  rw [mv_crossing]
  refine x_aloadn C dX2_crossing_0 rfl ?_
  refine x_iloadn C dX2_crossing_1 (x := p1) rfl ?_
  refine x_Vi (st := []) C (c_mv_here  (p1) M) lk_X2_90 nC75 kC75 ⟨_, _, rfl⟩ rfl rfl (Nat.le_of_ble_eq_true rfl) (rmok_d (by decide) (by decide)) ⟨Nat.zero_le _, Nat.zero_le _⟩ dX2_crossing_2 (fun v1 => ?_)
  refine x_istore C dX2_crossing_5 (L' := [some (.ref ((wC b).2.2.2 + 75)), some (.int p1), some (.int p2), some (.int p3), some (.int v1), none, none, none]) (ltb rfl) rfl ?_
  refine x_aloadn C dX2_crossing_7 rfl ?_
  refine x_getI C fl_X2_9 cl_2 nC75 kC75 fC75_2 dX2_crossing_8 ?_
  refine x_iload C dX2_crossing_11 (x := v1) rfl ?_
  refine x_iconst C dX2_crossing_13 (v := (-1 : Int32)) (by decide) ?_
  refine x_ixor C dX2_crossing_14 ?_
  refine x_iand C dX2_crossing_15 ?_
  refine x_istore C dX2_crossing_16 (L' := [some (.ref ((wC b).2.2.2 + 75)), some (.int p1), some (.int p2), some (.int p3), some (.int v1), some (.int ((M 75 2) &&& (v1 ^^^ (-1 : Int32)))), none, none]) (ltb rfl) rfl ?_
  refine x_iloadn C dX2_crossing_18 (x := p2) rfl ?_
  refine x_iload C dX2_crossing_19 (x := v1) rfl ?_
  refine x_iconst C dX2_crossing_21 (v := (-1 : Int32)) (by decide) ?_
  refine x_ixor C dX2_crossing_22 ?_
  refine x_iand C dX2_crossing_23 ?_
  refine x_ifne C dX2_crossing_24 (tgt := 36) (by decide) (fun _h => ?_) (fun _h => ?_)
  · refine x_iconst C dX2_crossing_36 (v := (-1 : Int32)) (by decide) ?_
    exact x_iret C dX2_crossing_37 rfl
  · refine x_iloadn C dX2_crossing_27 (x := p3) rfl ?_
    refine x_iload C dX2_crossing_28 (x := ((M 75 2) &&& (v1 ^^^ (-1 : Int32)))) rfl ?_
    refine x_iconst C dX2_crossing_30 (v := (-1 : Int32)) (by decide) ?_
    refine x_ixor C dX2_crossing_31 ?_
    refine x_iand C dX2_crossing_32 ?_
    refine x_ifeq C dX2_crossing_33 (tgt := 38) (by decide) (fun _h => ?_) (fun _h => ?_)
    · refine x_aloadn C dX2_crossing_38 rfl ?_
      refine x_aloadn C dX2_crossing_39 rfl ?_
      refine x_getR C fl_X2_18 cl_2 (76) nC75 kC75 fC75_4 dX2_crossing_40 ?_
      refine x_iloadn C dX2_crossing_43 (x := p2) rfl ?_
      refine x_iald C nC76 kC76 dX2_crossing_44 ?_
      refine x_Vi (st := []) C (c_mv_needFor  ((M 76 p2.toNatClampNeg)) M) lk_X2_94 nC75 kC75 ⟨_, _, rfl⟩ rfl rfl (Nat.le_of_ble_eq_true rfl) (rmok_d (by decide) (by decide)) ⟨Nat.zero_le _, Nat.zero_le _⟩ dX2_crossing_45 (fun v2 => ?_)
      refine x_istore C dX2_crossing_48 (L' := [some (.ref ((wC b).2.2.2 + 75)), some (.int p1), some (.int p2), some (.int p3), some (.int v1), some (.int ((M 75 2) &&& (v1 ^^^ (-1 : Int32)))), some (.int v2), none]) (ltb rfl) rfl ?_
      refine x_aloadn C dX2_crossing_50 rfl ?_
      refine x_getR C fl_X2_22 cl_2 (77) nC75 kC75 fC75_5 dX2_crossing_51 ?_
      refine x_iloadn C dX2_crossing_54 (x := p3) rfl ?_
      refine x_iald C nC77 kC77 dX2_crossing_55 ?_
      refine x_istore C dX2_crossing_56 (L' := [some (.ref ((wC b).2.2.2 + 75)), some (.int p1), some (.int p2), some (.int p3), some (.int v1), some (.int ((M 75 2) &&& (v1 ^^^ (-1 : Int32)))), some (.int v2), some (.int (M 77 p3.toNatClampNeg))]) (ltb rfl) rfl ?_
      refine x_aloadn C dX2_crossing_58 rfl ?_
      refine x_aloadn C dX2_crossing_59 rfl ?_
      refine x_getR C fl_X2_18 cl_2 (76) nC75 kC75 fC75_4 dX2_crossing_60 ?_
      refine x_iloadn C dX2_crossing_63 (x := p2) rfl ?_
      refine x_iald C nC76 kC76 dX2_crossing_64 ?_
      refine x_Vi (st := []) C (c_mv_ropeBears  ((M 76 p2.toNatClampNeg)) M) lk_X2_97 nC75 kC75 ⟨_, _, rfl⟩ rfl rfl (Nat.le_of_ble_eq_true rfl) (rmok_d (by decide) (by decide)) ⟨Nat.zero_le _, Nat.zero_le _⟩ dX2_crossing_65 (fun v3 => ?_)
      refine x_ifeq C dX2_crossing_68 (tgt := 78) (by decide) (fun _h => ?_) (fun _h => ?_)
      · refine x_iconst C dX2_crossing_78 (v := (-1 : Int32)) (by decide) ?_
        exact x_iret C dX2_crossing_79 rfl
      · refine x_iload C dX2_crossing_71 (x := (M 77 p3.toNatClampNeg)) rfl ?_
        refine x_iload C dX2_crossing_73 (x := v2) rfl ?_
        refine x_icmpge C dX2_crossing_75 (tgt := 80) (by decide) (fun _h => ?_) (fun _h => ?_)
        · refine x_aloadn C dX2_crossing_80 rfl ?_
          refine x_getR C fl_X2_25 cl_2 (78) nC75 kC75 fC75_6 dX2_crossing_81 ?_
          refine x_iloadn C dX2_crossing_84 (x := p2) rfl ?_
          refine x_iald C nC78 kC78 dX2_crossing_85 ?_
          refine x_iloadn C dX2_crossing_86 (x := p2) rfl ?_
          refine x_iconst C dX2_crossing_87 (v := (-1 : Int32)) (by decide) ?_
          refine x_ixor C dX2_crossing_88 ?_
          refine x_iand C dX2_crossing_89 ?_
          refine x_ifne C dX2_crossing_90 (tgt := 105) (by decide) (fun _h => ?_) (fun _h => ?_)
          · refine x_iconst C dX2_crossing_105 (v := (-1 : Int32)) (by decide) ?_
            exact x_iret C dX2_crossing_106 rfl
          · refine x_aloadn C dX2_crossing_93 rfl ?_
            refine x_iload C dX2_crossing_94 (x := v1) rfl ?_
            refine x_iload C dX2_crossing_96 (x := ((M 75 2) &&& (v1 ^^^ (-1 : Int32)))) rfl ?_
            refine x_iloadn C dX2_crossing_98 (x := p2) rfl ?_
            refine x_Vi (st := []) C (c_mv_keepsPeace  (v1) (((M 75 2) &&& (v1 ^^^ (-1 : Int32)))) (p2) M) lk_X2_100 nC75 kC75 ⟨_, _, rfl⟩ rfl rfl (Nat.le_of_ble_eq_true rfl) (rmok_d (by decide) (by decide)) ⟨Nat.zero_le _, Nat.zero_le _⟩ dX2_crossing_99 (fun v4 => ?_)
            refine x_ifne C dX2_crossing_102 (tgt := 107) (by decide) (fun _h => ?_) (fun _h => ?_)
            · refine x_aloadn C dX2_crossing_107 rfl ?_
              refine x_iload C dX2_crossing_108 (x := v2) rfl ?_
              refine x_iload C dX2_crossing_110 (x := (M 77 p3.toNatClampNeg)) rfl ?_
              refine x_Vi (st := []) C (c_mv_minutesFor  (v2) ((M 77 p3.toNatClampNeg)) M) lk_X2_104 nC75 kC75 ⟨_, _, rfl⟩ rfl rfl (Nat.le_of_ble_eq_true rfl) (rmok_d (by decide) (by decide)) ⟨Nat.zero_le _, Nat.zero_le _⟩ dX2_crossing_112 (fun v5 => ?_)
              exact x_iret C dX2_crossing_115 rfl
            · refine x_iconst C dX2_crossing_105 (v := (-1 : Int32)) (by decide) ?_
              exact x_iret C dX2_crossing_106 rfl
        · refine x_iconst C dX2_crossing_78 (v := (-1 : Int32)) (by decide) ?_
          exact x_iret C dX2_crossing_79 rfl
    · refine x_iconst C dX2_crossing_36 (v := (-1 : Int32)) (by decide) ?_
      exact x_iret C dX2_crossing_37 rfl
def mv_swimming_J48 (p1 : Int32) (p2 : Int32) (x3 : Int32) (s0 : Int32) (M : Mem) : Option Int32 := (if ((M 6 5) &&& x3) = 0 then some ((-1 : Int32)) else chk (inb x3 1024) ((if (M 77 x3.toNatClampNeg) < (M 75 3) then some ((-1 : Int32)) else chk (inb x3 1024) ((if (M 78 x3.toNatClampNeg) = 0 then (mv_keepsPeace (s0) (((M 75 2) &&& (s0 ^^^ (-1 : Int32)))) (x3) M).bind fun v3 => (if v3 = 0 then some ((-1 : Int32)) else some (((M 6 8) + (M 75 3)))) else some ((-1 : Int32)))))))
def mv_swimming (p1 : Int32) (p2 : Int32) (M : Mem) : Option Int32 := (rv_hasBeing 6 (p2) M).bind fun v1 => (if v1 = 0 then some ((-1 : Int32)) else lt1 (((p1 >>> ((1 : Int32) &&& 31)) &&& (M 75 2))) fun v2 => (if (v2 &&& ((1 : Int32) <<< (p2 &&& 31))) = 0 then mv_swimming_J48 p1 p2 (((1 : Int32) <<< (p2 &&& 31))) (((M 75 2) &&& (v2 ^^^ (-1 : Int32)))) M else mv_swimming_J48 p1 p2 (((1 : Int32) <<< (p2 &&& 31))) (v2) M))
set_option maxHeartbeats 4000000 in
set_option maxRecDepth 20000 in
theorem w_mv_swimming_J48 {z : ZT} {l : Launch} {g : GG} {b : Nat} (C : Cx z l g (wC b) (rmd 2) cX2_swimming 6 RX2 (some .int)) (p1 : Int32) (p2 : Int32) (M : Mem) (x3 : Int32) (s0 : Int32) : XG z g (wC b) 6 (ZQ z g (wC b) (finI M)) 0 0 48 [some (.ref ((wC b).2.2.2 + 75)), none, none, some (.int x3), none, none] [.int s0] M (mv_swimming_J48 p1 p2 x3 s0 M) := by
  rw [mv_swimming_J48]
  refine x_istore C dX2_swimming_48 (L' := [some (.ref ((wC b).2.2.2 + 75)), none, none, some (.int x3), none, some (.int s0)]) (ltb rfl) rfl ?_
  refine x_aloadn C dX2_swimming_50 rfl ?_
  refine x_getR C fl_X2_41 cl_2 (6) nC75 kC75 fC75_0 dX2_swimming_51 ?_
  refine x_getI C fl_X2_111 cl_5 nC6 kC6 fC6_5 dX2_swimming_54 ?_
  refine x_iloadn C dX2_swimming_57 (x := x3) rfl ?_
  refine x_iand C dX2_swimming_58 ?_
  refine x_ifeq C dX2_swimming_59 (tgt := 103) (by decide) (fun _h => ?_) (fun _h => ?_)
  · refine x_iconst C dX2_swimming_103 (v := (-1 : Int32)) (by decide) ?_
    exact x_iret C dX2_swimming_104 rfl
  · refine x_aloadn C dX2_swimming_62 rfl ?_
    refine x_getR C fl_X2_22 cl_2 (77) nC75 kC75 fC75_5 dX2_swimming_63 ?_
    refine x_iloadn C dX2_swimming_66 (x := x3) rfl ?_
    refine x_iald C nC77 kC77 dX2_swimming_67 ?_
    refine x_aloadn C dX2_swimming_68 rfl ?_
    refine x_getI C fl_X2_15 cl_2 nC75 kC75 fC75_3 dX2_swimming_69 ?_
    refine x_icmplt C dX2_swimming_72 (tgt := 103) (by decide) (fun _h => ?_) (fun _h => ?_)
    · refine x_iconst C dX2_swimming_103 (v := (-1 : Int32)) (by decide) ?_
      exact x_iret C dX2_swimming_104 rfl
    · refine x_aloadn C dX2_swimming_75 rfl ?_
      refine x_getR C fl_X2_25 cl_2 (78) nC75 kC75 fC75_6 dX2_swimming_76 ?_
      refine x_iloadn C dX2_swimming_79 (x := x3) rfl ?_
      refine x_iald C nC78 kC78 dX2_swimming_80 ?_
      refine x_ifne C dX2_swimming_81 (tgt := 103) (by decide) (fun _h => ?_) (fun _h => ?_)
      · refine x_iconst C dX2_swimming_103 (v := (-1 : Int32)) (by decide) ?_
        exact x_iret C dX2_swimming_104 rfl
      · refine x_aloadn C dX2_swimming_84 rfl ?_
        refine x_iload C dX2_swimming_85 (x := s0) rfl ?_
        refine x_aloadn C dX2_swimming_87 rfl ?_
        refine x_getI C fl_X2_9 cl_2 nC75 kC75 fC75_2 dX2_swimming_88 ?_
        refine x_iload C dX2_swimming_91 (x := s0) rfl ?_
        refine x_iconst C dX2_swimming_93 (v := (-1 : Int32)) (by decide) ?_
        refine x_ixor C dX2_swimming_94 ?_
        refine x_iand C dX2_swimming_95 ?_
        refine x_iloadn C dX2_swimming_96 (x := x3) rfl ?_
        refine x_Vi (st := []) C (c_mv_keepsPeace  (s0) (((M 75 2) &&& (s0 ^^^ (-1 : Int32)))) (x3) M) lk_X2_100 nC75 kC75 ⟨_, _, rfl⟩ rfl rfl (Nat.le_of_ble_eq_true rfl) (rmok_d (by decide) (by decide)) ⟨Nat.zero_le _, Nat.zero_le _⟩ dX2_swimming_97 (fun v3 => ?_)
        refine x_ifne C dX2_swimming_100 (tgt := 105) (by decide) (fun _h => ?_) (fun _h => ?_)
        · refine x_aloadn C dX2_swimming_105 rfl ?_
          refine x_getR C fl_X2_41 cl_2 (6) nC75 kC75 fC75_0 dX2_swimming_106 ?_
          refine x_getI C fl_X2_87 cl_5 nC6 kC6 fC6_8 dX2_swimming_109 ?_
          refine x_aloadn C dX2_swimming_112 rfl ?_
          refine x_getI C fl_X2_15 cl_2 nC75 kC75 fC75_3 dX2_swimming_113 ?_
          refine x_iadd C dX2_swimming_116 ?_
          exact x_iret C dX2_swimming_117 rfl
        · refine x_iconst C dX2_swimming_103 (v := (-1 : Int32)) (by decide) ?_
          exact x_iret C dX2_swimming_104 rfl
set_option maxHeartbeats 4000000 in
set_option maxRecDepth 20000 in
theorem c_mv_swimming {l : Launch} {g : GG} {b : Nat} (p1 : Int32) (p2 : Int32) (M : Mem) : CT l g (wC b) (rmd 2) yX2_swimming cX2_swimming 6 (some .int) [.ref ((wC b).2.2.2 + 75), .int p1, .int p2] M (finI M) (mv_swimming p1 p2 M) := by
  refine CT.of rfl (Nat.le_of_ble_eq_true rfl) (catc rfl (catc rfl (catc rfl cat0))) (fun z C => ?_)
  have C : Cx z l g (wC b) (rmd 2) cX2_swimming 6 RX2 (some .int) := C
  refine x_wk (L' := [some (.ref ((wC b).2.2.2 + 75)), some (.int p1), some (.int p2), none, none, none]) (And.intro rfl (And.intro rfl (And.intro rfl trivial))) ?_
  rw [mv_swimming]
  refine x_aloadn C dX2_swimming_0 rfl ?_
  refine x_getR C fl_X2_41 cl_2 (6) nC75 kC75 fC75_0 dX2_swimming_1 ?_
  refine x_iloadn C dX2_swimming_4 (x := p2) rfl ?_
  refine x_Vi (st := []) C (c_rv_hasBeing (Or.inl rfl) (p2) M) lk_X2_108 nC6 kC6 ⟨_, _, rfl⟩ rfl rfl (Nat.le_of_ble_eq_true rfl) (rmok_d (by decide) (by decide)) ⟨Nat.zero_le _, Nat.zero_le _⟩ dX2_swimming_5 (fun v1 => ?_)
  refine x_ifne C dX2_swimming_8 (tgt := 13) (by decide) (fun _h => ?_) (fun _h => ?_)
  · refine x_iconst C dX2_swimming_13 (v := (1 : Int32)) (by decide) ?_
    refine x_iloadn C dX2_swimming_14 (x := p2) rfl ?_
    refine x_ishl C dX2_swimming_15 ?_
    refine x_istoren C dX2_swimming_16 (L' := [some (.ref ((wC b).2.2.2 + 75)), some (.int p1), some (.int p2), some (.int ((1 : Int32) <<< (p2 &&& 31))), none, none]) (ltb rfl) rfl ?_
    refine x_iloadn C dX2_swimming_17 (x := p1) rfl ?_
    refine x_iconst C dX2_swimming_18 (v := (1 : Int32)) (by decide) ?_
    refine x_ishr C dX2_swimming_19 ?_
    refine x_aloadn C dX2_swimming_20 rfl ?_
    refine x_getI C fl_X2_9 cl_2 nC75 kC75 fC75_2 dX2_swimming_21 ?_
    refine x_iand C dX2_swimming_24 ?_
    refine x_lti (fun v2 => ?_)
    refine x_istore C dX2_swimming_25 (L' := [some (.ref ((wC b).2.2.2 + 75)), some (.int p1), some (.int p2), some (.int ((1 : Int32) <<< (p2 &&& 31))), some (.int v2), none]) (ltb rfl) rfl ?_
    refine x_iload C dX2_swimming_27 (x := v2) rfl ?_
    refine x_iloadn C dX2_swimming_29 (x := ((1 : Int32) <<< (p2 &&& 31))) rfl ?_
    refine x_iand C dX2_swimming_30 ?_
    refine x_ifeq C dX2_swimming_31 (tgt := 39) (by decide) (fun _h => ?_) (fun _h => ?_)
    · refine x_aloadn C dX2_swimming_39 rfl ?_
      refine x_getI C fl_X2_9 cl_2 nC75 kC75 fC75_2 dX2_swimming_40 ?_
      refine x_iload C dX2_swimming_43 (x := v2) rfl ?_
      refine x_iconst C dX2_swimming_45 (v := (-1 : Int32)) (by decide) ?_
      refine x_ixor C dX2_swimming_46 ?_
      refine x_iand C dX2_swimming_47 ?_
      exact x_wk (L' := [some (.ref ((wC b).2.2.2 + 75)), none, none, some (.int ((1 : Int32) <<< (p2 &&& 31))), none, none]) (And.intro rfl (And.intro rfl trivial)) (w_mv_swimming_J48 C p1 p2  M (((1 : Int32) <<< (p2 &&& 31))) (((M 75 2) &&& (v2 ^^^ (-1 : Int32)))))
    · refine x_iload C dX2_swimming_34 (x := v2) rfl ?_
      refine x_goto C dX2_swimming_36 (tgt := 48) (by decide) ?_
      exact x_wk (L' := [some (.ref ((wC b).2.2.2 + 75)), none, none, some (.int ((1 : Int32) <<< (p2 &&& 31))), none, none]) (And.intro rfl (And.intro rfl trivial)) (w_mv_swimming_J48 C p1 p2  M (((1 : Int32) <<< (p2 &&& 31))) (v2))
  · refine x_iconst C dX2_swimming_11 (v := (-1 : Int32)) (by decide) ?_
    exact x_iret C dX2_swimming_12 rfl
def mv_ferrying (p1 : Int32) (p2 : Int32) (M : Mem) : Option Int32 := (mv_here (p1) M).bind fun v1 => (mv_crossing (p1) (p2) (((M 75 2) &&& (v1 ^^^ (-1 : Int32)))) M).bind fun v2 => some (v2)
set_option maxHeartbeats 4000000 in
set_option maxRecDepth 20000 in
theorem c_mv_ferrying {l : Launch} {g : GG} {b : Nat} (p1 : Int32) (p2 : Int32) (M : Mem) : CT l g (wC b) (rmd 3) yX2_ferrying cX2_ferrying 3 (some .int) [.ref ((wC b).2.2.2 + 75), .int p1, .int p2] M (finI M) (mv_ferrying p1 p2 M) := by
  refine CT.of rfl (Nat.le_of_ble_eq_true rfl) (catc rfl (catc rfl (catc rfl cat0))) (fun z C => ?_)
  have C : Cx z l g (wC b) (rmd 3) cX2_ferrying 3 RX2 (some .int) := C
  refine x_wk (L' := [some (.ref ((wC b).2.2.2 + 75)), some (.int p1), some (.int p2)]) (And.intro rfl (And.intro rfl (And.intro rfl trivial))) ?_
  rw [mv_ferrying]
  refine x_aloadn C dX2_ferrying_0 rfl ?_
  refine x_iloadn C dX2_ferrying_1 (x := p1) rfl ?_
  refine x_iloadn C dX2_ferrying_2 (x := p2) rfl ?_
  refine x_aloadn C dX2_ferrying_3 rfl ?_
  refine x_getI C fl_X2_9 cl_2 nC75 kC75 fC75_2 dX2_ferrying_4 ?_
  refine x_aloadn C dX2_ferrying_7 rfl ?_
  refine x_iloadn C dX2_ferrying_8 (x := p1) rfl ?_
  refine x_Vi (st := [.int (M 75 2), .int p2, .int p1, .ref ((wC b).2.2.2 + 75)]) C (c_mv_here  (p1) M) lk_X2_90 nC75 kC75 ⟨_, _, rfl⟩ rfl rfl (Nat.le_of_ble_eq_true rfl) (rmok_d (by decide) (by decide)) ⟨Nat.zero_le _, Nat.zero_le _⟩ dX2_ferrying_9 (fun v1 => ?_)
  refine x_iconst C dX2_ferrying_12 (v := (-1 : Int32)) (by decide) ?_
  refine x_ixor C dX2_ferrying_13 ?_
  refine x_iand C dX2_ferrying_14 ?_
  refine x_Vi (st := []) C (c_mv_crossing  (p1) (p2) (((M 75 2) &&& (v1 ^^^ (-1 : Int32)))) M) lk_X2_114 nC75 kC75 ⟨_, _, rfl⟩ rfl rfl (Nat.le_of_ble_eq_true rfl) (rmok_d (by decide) (by decide)) ⟨Nat.zero_le _, Nat.zero_le _⟩ dX2_ferrying_15 (fun v2 => ?_)
  exact x_iret C dX2_ferrying_18 rfl
def mv_behind (p1 : Int32) (p2 : Int32) (M : Mem) : Option Int32 := (if p2 < (1024 : Int32) then some ((p1 ^^^ ((p2 <<< ((1 : Int32) &&& 31)) ||| (1 : Int32)))) else some ((p1 ^^^ ((2 : Int32) <<< ((p2 - (1024 : Int32)) &&& 31)))))
set_option maxHeartbeats 4000000 in
set_option maxRecDepth 20000 in
theorem c_mv_behind {l : Launch} {g : GG} {b : Nat} (p1 : Int32) (p2 : Int32) (M : Mem) : CT l g (wC b) (rmd 1) yX2_behind cX2_behind 3 (some .int) [.ref ((wC b).2.2.2 + 75), .int p1, .int p2] M (finI M) (mv_behind p1 p2 M) := by
  refine CT.of rfl (Nat.le_of_ble_eq_true rfl) (catc rfl (catc rfl (catc rfl cat0))) (fun z C => ?_)
  have C : Cx z l g (wC b) (rmd 1) cX2_behind 3 RX2 (some .int) := C
  refine x_wk (L' := [some (.ref ((wC b).2.2.2 + 75)), some (.int p1), some (.int p2)]) (And.intro rfl (And.intro rfl (And.intro rfl trivial))) ?_
  rw [mv_behind]
  refine x_iloadn C dX2_behind_0 (x := p2) rfl ?_
  refine x_sipush C dX2_behind_1 (v := (1024 : Int32)) (by decide) ?_
  refine x_icmplt C dX2_behind_4 (tgt := 19) (by decide) (fun _h => ?_) (fun _h => ?_)
  · refine x_iloadn C dX2_behind_19 (x := p1) rfl ?_
    refine x_iloadn C dX2_behind_20 (x := p2) rfl ?_
    refine x_iconst C dX2_behind_21 (v := (1 : Int32)) (by decide) ?_
    refine x_ishl C dX2_behind_22 ?_
    refine x_iconst C dX2_behind_23 (v := (1 : Int32)) (by decide) ?_
    refine x_ior C dX2_behind_24 ?_
    refine x_ixor C dX2_behind_25 ?_
    exact x_iret C dX2_behind_26 rfl
  · refine x_iloadn C dX2_behind_7 (x := p1) rfl ?_
    refine x_iconst C dX2_behind_8 (v := (2 : Int32)) (by decide) ?_
    refine x_iloadn C dX2_behind_9 (x := p2) rfl ?_
    refine x_sipush C dX2_behind_10 (v := (1024 : Int32)) (by decide) ?_
    refine x_isub C dX2_behind_13 ?_
    refine x_ishl C dX2_behind_14 ?_
    refine x_ixor C dX2_behind_15 ?_
    refine x_goto C dX2_behind_16 (tgt := 26) (by decide) ?_
    exact x_iret C dX2_behind_26 rfl
def mv_putMove (p1 : Int32) (p2 : Int32) (M : Mem) : Option Mem := (if p2 = (-1 : Int32) then some M else (if (M 75 10) < (1034 : Int32) then chk (inb (M 75 10) 1034) (lt1 (wr M 80 (M 75 10).toNatClampNeg p1) fun M1 => chk (inb (M1 75 10) 1034) (lt1 (wr M1 81 (M1 75 10).toNatClampNeg p2) fun M2 => lt1 (wr M2 75 10 ((M2 75 10) + (1 : Int32))) fun M3 => some M3)) else some M))
set_option maxHeartbeats 4000000 in
set_option maxRecDepth 20000 in
theorem c_mv_putMove {l : Launch} {g : GG} {b : Nat} (p1 : Int32) (p2 : Int32) (M : Mem) : CT l g (wC b) (rmd 1) yX2_putMove cX2_putMove 3 none [.ref ((wC b).2.2.2 + 75), .int p1, .int p2] M finV (mv_putMove p1 p2 M) := by
  refine CT.of rfl (Nat.le_of_ble_eq_true rfl) (catc rfl (catc rfl (catc rfl cat0))) (fun z C => ?_)
  have C : Cx z l g (wC b) (rmd 1) cX2_putMove 3 RX2 none := C
  refine x_wk (L' := [some (.ref ((wC b).2.2.2 + 75)), some (.int p1), some (.int p2)]) (And.intro rfl (And.intro rfl (And.intro rfl trivial))) ?_
  rw [mv_putMove]
  refine x_iloadn C dX2_putMove_0 (x := p2) rfl ?_
  refine x_iconst C dX2_putMove_1 (v := (-1 : Int32)) (by decide) ?_
  refine x_icmpeq C dX2_putMove_2 (tgt := 45) (by decide) (fun _h => ?_) (fun _h => ?_)
  · exact x_vret C dX2_putMove_45 rfl
  · refine x_aloadn C dX2_putMove_5 rfl ?_
    refine x_getI C fl_X2_38 cl_2 nC75 kC75 fC75_10 dX2_putMove_6 ?_
    refine x_sipush C dX2_putMove_9 (v := (1034 : Int32)) (by decide) ?_
    refine x_icmpge C dX2_putMove_12 (tgt := 45) (by decide) (fun _h => ?_) (fun _h => ?_)
    · exact x_vret C dX2_putMove_45 rfl
    · refine x_aloadn C dX2_putMove_15 rfl ?_
      refine x_getR C fl_X2_32 cl_2 (80) nC75 kC75 fC75_8 dX2_putMove_16 ?_
      refine x_aloadn C dX2_putMove_19 rfl ?_
      refine x_getI C fl_X2_38 cl_2 nC75 kC75 fC75_10 dX2_putMove_20 ?_
      refine x_iloadn C dX2_putMove_23 (x := p1) rfl ?_
      refine x_iast C nC80 kC80 dX2_putMove_24 ?_
      refine x_ltM (fun M1 => ?_)
      refine x_aloadn C dX2_putMove_25 rfl ?_
      refine x_getR C fl_X2_35 cl_2 (81) nC75 kC75 fC75_9 dX2_putMove_26 ?_
      refine x_aloadn C dX2_putMove_29 rfl ?_
      refine x_getI C fl_X2_38 cl_2 nC75 kC75 fC75_10 dX2_putMove_30 ?_
      refine x_iloadn C dX2_putMove_33 (x := p2) rfl ?_
      refine x_iast C nC81 kC81 dX2_putMove_34 ?_
      refine x_ltM (fun M2 => ?_)
      refine x_aloadn C dX2_putMove_35 rfl ?_
      refine x_dup C dX2_putMove_36 rfl ?_
      refine x_getI C fl_X2_38 cl_2 nC75 kC75 fC75_10 dX2_putMove_37 ?_
      refine x_iconst C dX2_putMove_40 (v := (1 : Int32)) (by decide) ?_
      refine x_iadd C dX2_putMove_41 ?_
      refine x_putI C fl_X2_38 cl_2 fint_2_10 nC75 kC75 fC75_10 dX2_putMove_42 ?_
      refine x_ltM (fun M3 => ?_)
      exact x_vret C dX2_putMove_45 rfl
def mv_list_L21 (p1 : Int32) (y2 : Int32) (K : Mem → Option Mem) : Nat → Int32 → Int32 → Mem → Option Mem
  | 0, _, _, _ => none
  | fu + 1, x3, x4, M => (if 0 < x4 then (mv_ferrying (p1) (x3) M).bind fun v4 => (mv_putMove (x3) (v4) M).bind fun M5 => mv_list_L21 p1 y2 K fu (((x3 - y2) &&& y2)) ((x4 + (-1 : Int32))) (M5) else K (M))
def mv_list_L52 (p1 : Int32) (K : Mem → Option Mem) : Nat → Int32 → Mem → Option Mem
  | 0, _, _ => none
  | fu + 1, x4, M => (if x4 < (M 6 1) then (mv_swimming (p1) (x4) M).bind fun v8 => (mv_putMove (((1024 : Int32) + x4)) (v8) M).bind fun M9 => mv_list_L52 p1 K fu ((x4 + (1 : Int32))) (M9) else K (M))
def mv_list (p1 : Int32) (M : Mem) : Option Mem := lt1 (wr M 75 10 (0 : Int32)) fun M1 => (mv_here (p1) M1).bind fun v2 => (ji_bitCount (v2) M1).bind fun v3 => mv_list_L21 p1 (v2) (fun M7 => mv_list_L52 p1 (fun M11 => some M11) FU ((0 : Int32)) M7) FU ((0 : Int32)) (((1 : Int32) <<< (v3 &&& 31))) M1
set_option maxHeartbeats 4000000 in
set_option maxRecDepth 20000 in
theorem w_mv_list_L21 {z : ZT} {l : Launch} {g : GG} {b : Nat} (C : Cx z l g (wC b) (rmd 4) cX2_list 5 RX2 none) (p1 : Int32) (y2 : Int32) {K : Mem → Option Mem} (hK : ∀ (M : Mem) , XG z g (wC b) 5 (ZQ z g (wC b) finV) 0 0 49 [some (.ref ((wC b).2.2.2 + 75)), some (.int p1), none, none, none] [] M (K M)) : ∀ (fu : Nat) (x3 : Int32) (x4 : Int32) (M : Mem), XG z g (wC b) 5 (ZQ z g (wC b) finV) 0 0 21 [some (.ref ((wC b).2.2.2 + 75)), some (.int p1), some (.int y2), some (.int x3), some (.int x4)] [] M (mv_list_L21 p1 y2 K fu x3 x4 M) := by
  intro fu
  induction fu with
  | zero => intro x3 x4 M; exact x_none
  | succ fu ih =>
    intro x3 x4 M
    rw [mv_list_L21]
    refine x_iload C dX2_list_21 (x := x4) rfl ?_
    refine x_ifle C dX2_list_23 (tgt := 49) (by decide) (fun _h => ?_) (fun _h => ?_)
    · exact x_wk (L' := [some (.ref ((wC b).2.2.2 + 75)), some (.int p1), none, none, none]) (And.intro rfl (And.intro rfl trivial)) (hK (M))
    · refine x_aloadn C dX2_list_26 rfl ?_
      refine x_iloadn C dX2_list_27 (x := x3) rfl ?_
      refine x_aloadn C dX2_list_28 rfl ?_
      refine x_iloadn C dX2_list_29 (x := p1) rfl ?_
      refine x_iloadn C dX2_list_30 (x := x3) rfl ?_
      refine x_Vi (st := [.int x3, .ref ((wC b).2.2.2 + 75)]) C (c_mv_ferrying  (p1) (x3) M) lk_X2_123 nC75 kC75 ⟨_, _, rfl⟩ rfl rfl (Nat.le_of_ble_eq_true rfl) (rmok_d (by decide) (by decide)) ⟨Nat.zero_le _, Nat.zero_le _⟩ dX2_list_31 (fun v4 => ?_)
      refine x_Vv (st := []) C (c_mv_putMove  (x3) (v4) M) lk_X2_126 nC75 kC75 ⟨_, _, rfl⟩ rfl rfl (Nat.le_of_ble_eq_true rfl) (rmok_d (by decide) (by decide)) ⟨Nat.zero_le _, Nat.zero_le _⟩ dX2_list_34 (fun M5 => ?_)
      refine x_iloadn C dX2_list_37 (x := x3) rfl ?_
      refine x_iloadn C dX2_list_38 (x := y2) rfl ?_
      refine x_isub C dX2_list_39 ?_
      refine x_iloadn C dX2_list_40 (x := y2) rfl ?_
      refine x_iand C dX2_list_41 ?_
      refine x_istoren C dX2_list_42 (L' := [some (.ref ((wC b).2.2.2 + 75)), some (.int p1), some (.int y2), some (.int ((x3 - y2) &&& y2)), some (.int x4)]) (ltb rfl) rfl ?_
      refine x_iinc C dX2_list_43 (v := (x4 + (-1 : Int32))) rfl rfl (L' := [some (.ref ((wC b).2.2.2 + 75)), some (.int p1), some (.int y2), some (.int ((x3 - y2) &&& y2)), some (.int (x4 + (-1 : Int32)))]) rfl ?_
      refine x_goto C dX2_list_46 (tgt := 21) (by decide) ?_
      exact x_wk (L' := [some (.ref ((wC b).2.2.2 + 75)), some (.int p1), some (.int y2), some (.int ((x3 - y2) &&& y2)), some (.int (x4 + (-1 : Int32)))]) (And.intro rfl (And.intro rfl (And.intro rfl (And.intro rfl (And.intro rfl trivial))))) (ih (((x3 - y2) &&& y2)) ((x4 + (-1 : Int32))) (M5))
set_option maxHeartbeats 4000000 in
set_option maxRecDepth 20000 in
theorem w_mv_list_L52 {z : ZT} {l : Launch} {g : GG} {b : Nat} (C : Cx z l g (wC b) (rmd 4) cX2_list 5 RX2 none) (p1 : Int32) {K : Mem → Option Mem} (hK : ∀ (M : Mem) , XG z g (wC b) 5 (ZQ z g (wC b) finV) 0 0 87 [none, none, none, none, none] [] M (K M)) : ∀ (fu : Nat) (x4 : Int32) (M : Mem), XG z g (wC b) 5 (ZQ z g (wC b) finV) 0 0 52 [some (.ref ((wC b).2.2.2 + 75)), some (.int p1), none, none, some (.int x4)] [] M (mv_list_L52 p1 K fu x4 M) := by
  intro fu
  induction fu with
  | zero => intro x4 M; exact x_none
  | succ fu ih =>
    intro x4 M
    rw [mv_list_L52]
    refine x_iload C dX2_list_52 (x := x4) rfl ?_
    refine x_aloadn C dX2_list_54 rfl ?_
    refine x_getR C fl_X2_41 cl_2 (6) nC75 kC75 fC75_0 dX2_list_55 ?_
    refine x_getI C fl_X2_61 cl_5 nC6 kC6 fC6_1 dX2_list_58 ?_
    refine x_icmpge C dX2_list_61 (tgt := 87) (by decide) (fun _h => ?_) (fun _h => ?_)
    · exact x_wk (L' := [none, none, none, none, none]) (trivial) (hK (M))
    · refine x_aloadn C dX2_list_64 rfl ?_
      refine x_sipush C dX2_list_65 (v := (1024 : Int32)) (by decide) ?_
      refine x_iload C dX2_list_68 (x := x4) rfl ?_
      refine x_iadd C dX2_list_70 ?_
      refine x_aloadn C dX2_list_71 rfl ?_
      refine x_iloadn C dX2_list_72 (x := p1) rfl ?_
      refine x_iload C dX2_list_73 (x := x4) rfl ?_
      refine x_Vi (st := [.int ((1024 : Int32) + x4), .ref ((wC b).2.2.2 + 75)]) C (c_mv_swimming  (p1) (x4) M) lk_X2_129 nC75 kC75 ⟨_, _, rfl⟩ rfl rfl (Nat.le_of_ble_eq_true rfl) (rmok_d (by decide) (by decide)) ⟨Nat.zero_le _, Nat.zero_le _⟩ dX2_list_75 (fun v8 => ?_)
      refine x_Vv (st := []) C (c_mv_putMove  (((1024 : Int32) + x4)) (v8) M) lk_X2_126 nC75 kC75 ⟨_, _, rfl⟩ rfl rfl (Nat.le_of_ble_eq_true rfl) (rmok_d (by decide) (by decide)) ⟨Nat.zero_le _, Nat.zero_le _⟩ dX2_list_78 (fun M9 => ?_)
      refine x_iinc C dX2_list_81 (v := (x4 + (1 : Int32))) rfl rfl (L' := [some (.ref ((wC b).2.2.2 + 75)), some (.int p1), none, none, some (.int (x4 + (1 : Int32)))]) rfl ?_
      refine x_goto C dX2_list_84 (tgt := 52) (by decide) ?_
      exact x_wk (L' := [some (.ref ((wC b).2.2.2 + 75)), some (.int p1), none, none, some (.int (x4 + (1 : Int32)))]) (And.intro rfl (And.intro rfl (And.intro rfl trivial))) (ih ((x4 + (1 : Int32))) (M9))
set_option maxHeartbeats 4000000 in
set_option maxRecDepth 20000 in
theorem c_mv_list {l : Launch} {g : GG} {b : Nat} (p1 : Int32) (M : Mem) : CT l g (wC b) (rmd 4) yX2_list cX2_list 5 none [.ref ((wC b).2.2.2 + 75), .int p1] M finV (mv_list p1 M) := by
  refine CT.of rfl (Nat.le_of_ble_eq_true rfl) (catc rfl (catc rfl cat0)) (fun z C => ?_)
  have C : Cx z l g (wC b) (rmd 4) cX2_list 5 RX2 none := C
  refine x_wk (L' := [some (.ref ((wC b).2.2.2 + 75)), some (.int p1), none, none, none]) (And.intro rfl (And.intro rfl trivial)) ?_
  rw [mv_list]
  refine x_aloadn C dX2_list_0 rfl ?_
  refine x_iconst C dX2_list_1 (v := (0 : Int32)) (by decide) ?_
  refine x_putI C fl_X2_38 cl_2 fint_2_10 nC75 kC75 fC75_10 dX2_list_2 ?_
  refine x_ltM (fun M1 => ?_)
  refine x_aloadn C dX2_list_5 rfl ?_
  refine x_iloadn C dX2_list_6 (x := p1) rfl ?_
  refine x_Vi (st := []) C (c_mv_here  (p1) M1) lk_X2_90 nC75 kC75 ⟨_, _, rfl⟩ rfl rfl (Nat.le_of_ble_eq_true rfl) (rmok_d (by decide) (by decide)) ⟨Nat.zero_le _, Nat.zero_le _⟩ dX2_list_7 (fun v2 => ?_)
  refine x_istoren C dX2_list_10 (L' := [some (.ref ((wC b).2.2.2 + 75)), some (.int p1), some (.int v2), none, none]) (ltb rfl) rfl ?_
  refine x_iconst C dX2_list_11 (v := (0 : Int32)) (by decide) ?_
  refine x_istoren C dX2_list_12 (L' := [some (.ref ((wC b).2.2.2 + 75)), some (.int p1), some (.int v2), some (.int (0 : Int32)), none]) (ltb rfl) rfl ?_
  refine x_iconst C dX2_list_13 (v := (1 : Int32)) (by decide) ?_
  refine x_iloadn C dX2_list_14 (x := v2) rfl ?_
  refine x_Si (st := [.int (1 : Int32)]) C (c_ji_bitCount  (v2) M1) lk_X2_118 rfl rfl (Nat.le_of_ble_eq_true rfl) (rmok_d (by decide) (by decide)) ⟨Nat.zero_le _, Nat.zero_le _⟩ dX2_list_15 (fun v3 => ?_)
  refine x_ishl C dX2_list_18 ?_
  refine x_istore C dX2_list_19 (L' := [some (.ref ((wC b).2.2.2 + 75)), some (.int p1), some (.int v2), some (.int (0 : Int32)), some (.int ((1 : Int32) <<< (v3 &&& 31)))]) (ltb rfl) rfl ?_
  refine x_wk (L' := [some (.ref ((wC b).2.2.2 + 75)), some (.int p1), some (.int v2), some (.int (0 : Int32)), some (.int ((1 : Int32) <<< (v3 &&& 31)))]) (And.intro rfl (And.intro rfl (And.intro rfl (And.intro rfl (And.intro rfl trivial))))) (w_mv_list_L21 C p1 (v2)  (fun M7 => ?_) FU ((0 : Int32)) (((1 : Int32) <<< (v3 &&& 31))) M1)
  refine x_iconst C dX2_list_49 (v := (0 : Int32)) (by decide) ?_
  refine x_istore C dX2_list_50 (L' := [some (.ref ((wC b).2.2.2 + 75)), some (.int p1), none, none, some (.int (0 : Int32))]) (ltb rfl) rfl ?_
  refine x_wk (L' := [some (.ref ((wC b).2.2.2 + 75)), some (.int p1), none, none, some (.int (0 : Int32))]) (And.intro rfl (And.intro rfl (And.intro rfl trivial))) (w_mv_list_L52 C p1   (fun M11 => ?_) FU ((0 : Int32)) M7)
  exact x_vret C dX2_list_87 rfl
