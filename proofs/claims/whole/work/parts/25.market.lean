def mk_begin (p1 : Int32) (M : Mem) : Option Mem := lt1 (wr M 89 8 p1) fun M1 => lt1 (wr M1 89 7 (0 : Int32)) fun M2 => lt1 (wr M2 89 9 (0 : Int32)) fun M3 => lt1 (wr M3 89 10 (0 : Int32)) fun M4 => lt1 (wr M4 89 11 (0 : Int32)) fun M5 => lt1 (wr M5 89 12 (0 : Int32)) fun M6 => lt1 (wr M6 89 13 (0 : Int32)) fun M7 => some M7
set_option maxHeartbeats 4000000 in
set_option maxRecDepth 20000 in
theorem c_mk_begin {l : Launch} {g : GG} {b : Nat} (p1 : Int32) (M : Mem) : CT l g (wC b) (rmd 1) yX1_begin cX1_begin 2 none [.ref ((wC b).2.2.2 + 89), .int p1] M finV (mk_begin p1 M) := by
  refine CT.of rfl (Nat.le_of_ble_eq_true rfl) (catc rfl (catc rfl cat0)) (fun z C => ?_)
  have C : Cx z l g (wC b) (rmd 1) cX1_begin 2 RX1 none := C
  refine x_wk (L' := [some (.ref ((wC b).2.2.2 + 89)), some (.int p1)]) (And.intro rfl (And.intro rfl trivial)) ?_
  rw [mk_begin]
  refine x_aloadn C dX1_begin_0 rfl ?_
  refine x_iloadn C dX1_begin_1 (x := p1) rfl ?_
  refine x_putI C fl_X1_32 cl_1 fint_1_8 nC89 kC89 fC89_8 dX1_begin_2 ?_
  refine x_ltM (fun M1 => ?_)
  refine x_aloadn C dX1_begin_5 rfl ?_
  refine x_iconst C dX1_begin_6 (v := (0 : Int32)) (by decide) ?_
  refine x_putI C fl_X1_28 cl_1 fint_1_7 nC89 kC89 fC89_7 dX1_begin_7 ?_
  refine x_ltM (fun M2 => ?_)
  refine x_aloadn C dX1_begin_10 rfl ?_
  refine x_iconst C dX1_begin_11 (v := (0 : Int32)) (by decide) ?_
  refine x_putI C fl_X1_35 cl_1 fint_1_9 nC89 kC89 fC89_9 dX1_begin_12 ?_
  refine x_ltM (fun M3 => ?_)
  refine x_aloadn C dX1_begin_15 rfl ?_
  refine x_iconst C dX1_begin_16 (v := (0 : Int32)) (by decide) ?_
  refine x_putI C fl_X1_38 cl_1 fint_1_10 nC89 kC89 fC89_10 dX1_begin_17 ?_
  refine x_ltM (fun M4 => ?_)
  refine x_aloadn C dX1_begin_20 rfl ?_
  refine x_iconst C dX1_begin_21 (v := (0 : Int32)) (by decide) ?_
  refine x_putI C fl_X1_41 cl_1 fint_1_11 nC89 kC89 fC89_11 dX1_begin_22 ?_
  refine x_ltM (fun M5 => ?_)
  refine x_aloadn C dX1_begin_25 rfl ?_
  refine x_iconst C dX1_begin_26 (v := (0 : Int32)) (by decide) ?_
  refine x_putI C fl_X1_44 cl_1 fint_1_12 nC89 kC89 fC89_12 dX1_begin_27 ?_
  refine x_ltM (fun M6 => ?_)
  refine x_aloadn C dX1_begin_30 rfl ?_
  refine x_iconst C dX1_begin_31 (v := (0 : Int32)) (by decide) ?_
  refine x_putI C fl_X1_47 cl_1 fint_1_13 nC89 kC89 fC89_13 dX1_begin_32 ?_
  refine x_ltM (fun M7 => ?_)
  exact x_vret C dX1_begin_35 rfl
def mk_draw (M : Mem) : Option (Int32 × Mem) := lt1 (wr M 89 8 (((1103515245 : Int32) * (M 89 8)) + (12345 : Int32))) fun M1 => some ((((M1 89 8) >>> ((16 : Int32) &&& 31)) &&& (32767 : Int32)), M1)
set_option maxHeartbeats 4000000 in
set_option maxRecDepth 20000 in
theorem c_mk_draw {l : Launch} {g : GG} {b : Nat} (M : Mem) : CT l g (wC b) (rmd 1) yX1_draw cX1_draw 1 (some .int) [.ref ((wC b).2.2.2 + 89)] M finM (mk_draw  M) := by
  refine CT.of rfl (Nat.le_of_ble_eq_true rfl) (catc rfl cat0) (fun z C => ?_)
  have C : Cx z l g (wC b) (rmd 1) cX1_draw 1 RX1 (some .int) := C
  refine x_wk (L' := [some (.ref ((wC b).2.2.2 + 89))]) (And.intro rfl trivial) ?_
  rw [mk_draw]
  refine x_aloadn C dX1_draw_0 rfl ?_
  refine x_ldc C dX1_draw_1 (v := (1103515245 : Int32)) cn_X1_74 ?_
  refine x_aloadn C dX1_draw_3 rfl ?_
  refine x_getI C fl_X1_32 cl_1 nC89 kC89 fC89_8 dX1_draw_4 ?_
  refine x_imul C dX1_draw_7 ?_
  refine x_sipush C dX1_draw_8 (v := (12345 : Int32)) (by decide) ?_
  refine x_iadd C dX1_draw_11 ?_
  refine x_putI C fl_X1_32 cl_1 fint_1_8 nC89 kC89 fC89_8 dX1_draw_12 ?_
  refine x_ltM (fun M1 => ?_)
  refine x_aloadn C dX1_draw_15 rfl ?_
  refine x_getI C fl_X1_32 cl_1 nC89 kC89 fC89_8 dX1_draw_16 ?_
  refine x_bipush C dX1_draw_19 (v := (16 : Int32)) (by decide) ?_
  refine x_ishr C dX1_draw_21 ?_
  refine x_sipush C dX1_draw_22 (v := (32767 : Int32)) (by decide) ?_
  refine x_iand C dX1_draw_25 ?_
  exact x_iret C dX1_draw_26 rfl
def mk_comeOne (p1 : Int32) (p2 : Int32) (M : Mem) : Option Mem := (if (M 89 7) < (40 : Int32) then chk (inb (M 89 7) 40) (lt1 (wr M 90 (M 89 7).toNatClampNeg p1) fun M1 => chk (inb (M1 89 7) 40) (lt1 (wr M1 91 (M1 89 7).toNatClampNeg p2) fun M2 => lt1 (wr M2 89 7 ((M2 89 7) + (1 : Int32))) fun M3 => some M3)) else lt1 (wr M 89 10 ((M 89 10) + (1 : Int32))) fun M4 => some M4)
set_option maxHeartbeats 4000000 in
set_option maxRecDepth 20000 in
theorem c_mk_comeOne {l : Launch} {g : GG} {b : Nat} (p1 : Int32) (p2 : Int32) (M : Mem) : CT l g (wC b) (rmd 1) yX1_comeOne cX1_comeOne 3 none [.ref ((wC b).2.2.2 + 89), .int p1, .int p2] M finV (mk_comeOne p1 p2 M) := by
  refine CT.of rfl (Nat.le_of_ble_eq_true rfl) (catc rfl (catc rfl (catc rfl cat0))) (fun z C => ?_)
  have C : Cx z l g (wC b) (rmd 1) cX1_comeOne 3 RX1 none := C
  refine x_wk (L' := [some (.ref ((wC b).2.2.2 + 89)), some (.int p1), some (.int p2)]) (And.intro rfl (And.intro rfl (And.intro rfl trivial))) ?_
  rw [mk_comeOne]
  refine x_aloadn C dX1_comeOne_0 rfl ?_
  refine x_getI C fl_X1_28 cl_1 nC89 kC89 fC89_7 dX1_comeOne_1 ?_
  refine x_bipush C dX1_comeOne_4 (v := (40 : Int32)) (by decide) ?_
  refine x_icmplt C dX1_comeOne_6 (tgt := 20) (by decide) (fun _h => ?_) (fun _h => ?_)
  · refine x_aloadn C dX1_comeOne_20 rfl ?_
    refine x_getR C fl_X1_11 cl_1 (90) nC89 kC89 fC89_2 dX1_comeOne_21 ?_
    refine x_aloadn C dX1_comeOne_24 rfl ?_
    refine x_getI C fl_X1_28 cl_1 nC89 kC89 fC89_7 dX1_comeOne_25 ?_
    refine x_iloadn C dX1_comeOne_28 (x := p1) rfl ?_
    refine x_iast C nC90 kC90 dX1_comeOne_29 ?_
    refine x_ltM (fun M1 => ?_)
    refine x_aloadn C dX1_comeOne_30 rfl ?_
    refine x_getR C fl_X1_15 cl_1 (91) nC89 kC89 fC89_3 dX1_comeOne_31 ?_
    refine x_aloadn C dX1_comeOne_34 rfl ?_
    refine x_getI C fl_X1_28 cl_1 nC89 kC89 fC89_7 dX1_comeOne_35 ?_
    refine x_iloadn C dX1_comeOne_38 (x := p2) rfl ?_
    refine x_iast C nC91 kC91 dX1_comeOne_39 ?_
    refine x_ltM (fun M2 => ?_)
    refine x_aloadn C dX1_comeOne_40 rfl ?_
    refine x_dup C dX1_comeOne_41 rfl ?_
    refine x_getI C fl_X1_28 cl_1 nC89 kC89 fC89_7 dX1_comeOne_42 ?_
    refine x_iconst C dX1_comeOne_45 (v := (1 : Int32)) (by decide) ?_
    refine x_iadd C dX1_comeOne_46 ?_
    refine x_putI C fl_X1_28 cl_1 fint_1_7 nC89 kC89 fC89_7 dX1_comeOne_47 ?_
    refine x_ltM (fun M3 => ?_)
    exact x_vret C dX1_comeOne_50 rfl
  · refine x_aloadn C dX1_comeOne_9 rfl ?_
    refine x_dup C dX1_comeOne_10 rfl ?_
    refine x_getI C fl_X1_38 cl_1 nC89 kC89 fC89_10 dX1_comeOne_11 ?_
    refine x_iconst C dX1_comeOne_14 (v := (1 : Int32)) (by decide) ?_
    refine x_iadd C dX1_comeOne_15 ?_
    refine x_putI C fl_X1_38 cl_1 fint_1_10 nC89 kC89 fC89_10 dX1_comeOne_16 ?_
    refine x_ltM (fun M4 => ?_)
    exact x_vret C dX1_comeOne_19 rfl
def mk_giveNumbers_L14 (p1 : Int32) (K : Mem → Option Mem) : Nat → Int32 → Mem → Option Mem
  | 0, _, _ => none
  | fu + 1, x2, M => (if x2 < (M 89 7) then chk (inb x2 40) (chk (inb x2 40) (bnd2 (ru_numberOf 58 ((p1 - (M 90 x2.toNatClampNeg))) ((M 91 x2.toNatClampNeg)) M) fun v3 M2 => chk (inb x2 40) (lt1 (wr M2 92 x2.toNatClampNeg v3) fun M4 => chk (inb x2 40) (lt1 (wr M4 93 x2.toNatClampNeg (0 : Int32)) fun M5 => chk (inb x2 40) (lt1 (wr M5 94 x2.toNatClampNeg (0 : Int32)) fun M6 => mk_giveNumbers_L14 p1 K fu ((x2 + (1 : Int32))) (M6)))))) else K (M))
def mk_giveNumbers (p1 : Int32) (M : Mem) : Option Mem := (ru_setHour 58 ((M 89 7)) (p1) M).bind fun M1 => mk_giveNumbers_L14 p1 (fun M8 => some M8) FU ((0 : Int32)) M1
set_option maxHeartbeats 4000000 in
set_option maxRecDepth 20000 in
theorem w_mk_giveNumbers_L14 {z : ZT} {l : Launch} {g : GG} {b : Nat} (C : Cx z l g (wC b) (rmd 5) cX1_giveNumbers 3 RX1 none) (p1 : Int32) {K : Mem → Option Mem} (hK : ∀ (M : Mem) , XG z g (wC b) 3 (ZQ z g (wC b) finV) 0 0 69 [none, none, none] [] M (K M)) : ∀ (fu : Nat) (x2 : Int32) (M : Mem), XG z g (wC b) 3 (ZQ z g (wC b) finV) 0 0 14 [some (.ref ((wC b).2.2.2 + 89)), some (.int p1), some (.int x2)] [] M (mk_giveNumbers_L14 p1 K fu x2 M) := by
  intro fu
  induction fu with
  | zero => intro x2 M; exact x_none
  | succ fu ih =>
    intro x2 M
    rw [mk_giveNumbers_L14]
    refine x_iloadn C dX1_giveNumbers_14 (x := x2) rfl ?_
    refine x_aloadn C dX1_giveNumbers_15 rfl ?_
    refine x_getI C fl_X1_28 cl_1 nC89 kC89 fC89_7 dX1_giveNumbers_16 ?_
    refine x_icmpge C dX1_giveNumbers_19 (tgt := 69) (by decide) (fun _h => ?_) (fun _h => ?_)
    · exact x_wk (L' := [none, none, none]) (trivial) (hK (M))
    · refine x_aloadn C dX1_giveNumbers_22 rfl ?_
      refine x_getR C fl_X1_18 cl_1 (92) nC89 kC89 fC89_4 dX1_giveNumbers_23 ?_
      refine x_iloadn C dX1_giveNumbers_26 (x := x2) rfl ?_
      refine x_aloadn C dX1_giveNumbers_27 rfl ?_
      refine x_getR C fl_X1_54 cl_1 (58) nC89 kC89 fC89_1 dX1_giveNumbers_28 ?_
      refine x_iloadn C dX1_giveNumbers_31 (x := p1) rfl ?_
      refine x_aloadn C dX1_giveNumbers_32 rfl ?_
      refine x_getR C fl_X1_11 cl_1 (90) nC89 kC89 fC89_2 dX1_giveNumbers_33 ?_
      refine x_iloadn C dX1_giveNumbers_36 (x := x2) rfl ?_
      refine x_iald C nC90 kC90 dX1_giveNumbers_37 ?_
      refine x_isub C dX1_giveNumbers_38 ?_
      refine x_aloadn C dX1_giveNumbers_39 rfl ?_
      refine x_getR C fl_X1_15 cl_1 (91) nC89 kC89 fC89_3 dX1_giveNumbers_40 ?_
      refine x_iloadn C dX1_giveNumbers_43 (x := x2) rfl ?_
      refine x_iald C nC91 kC91 dX1_giveNumbers_44 ?_
      refine x_Vm (st := [.int x2, .ref ((wC b).2.2.2 + 92)]) C (c_ru_numberOf (Or.inl rfl) ((p1 - (M 90 x2.toNatClampNeg))) ((M 91 x2.toNatClampNeg)) M) lk_X1_102 nC58 kC58 ⟨_, _, rfl⟩ rfl rfl (Nat.le_of_ble_eq_true rfl) (rmok_d (by decide) (by decide)) ⟨Nat.zero_le _, Nat.zero_le _⟩ dX1_giveNumbers_45 (fun v3 M2 => ?_)
      refine x_iast C nC92 kC92 dX1_giveNumbers_48 ?_
      refine x_ltM (fun M4 => ?_)
      refine x_aloadn C dX1_giveNumbers_49 rfl ?_
      refine x_getR C fl_X1_21 cl_1 (93) nC89 kC89 fC89_5 dX1_giveNumbers_50 ?_
      refine x_iloadn C dX1_giveNumbers_53 (x := x2) rfl ?_
      refine x_iconst C dX1_giveNumbers_54 (v := (0 : Int32)) (by decide) ?_
      refine x_zast C nC93 kC93 (by decide) dX1_giveNumbers_55 ?_
      refine x_ltM (fun M5 => ?_)
      refine x_aloadn C dX1_giveNumbers_56 rfl ?_
      refine x_getR C fl_X1_25 cl_1 (94) nC89 kC89 fC89_6 dX1_giveNumbers_57 ?_
      refine x_iloadn C dX1_giveNumbers_60 (x := x2) rfl ?_
      refine x_iconst C dX1_giveNumbers_61 (v := (0 : Int32)) (by decide) ?_
      refine x_zast C nC94 kC94 (by decide) dX1_giveNumbers_62 ?_
      refine x_ltM (fun M6 => ?_)
      refine x_iinc C dX1_giveNumbers_63 (v := (x2 + (1 : Int32))) rfl rfl (L' := [some (.ref ((wC b).2.2.2 + 89)), some (.int p1), some (.int (x2 + (1 : Int32)))]) rfl ?_
      refine x_goto C dX1_giveNumbers_66 (tgt := 14) (by decide) ?_
      exact x_wk (L' := [some (.ref ((wC b).2.2.2 + 89)), some (.int p1), some (.int (x2 + (1 : Int32)))]) (And.intro rfl (And.intro rfl (And.intro rfl trivial))) (ih ((x2 + (1 : Int32))) (M6))
set_option maxHeartbeats 4000000 in
set_option maxRecDepth 20000 in
theorem c_mk_giveNumbers {l : Launch} {g : GG} {b : Nat} (p1 : Int32) (M : Mem) : CT l g (wC b) (rmd 5) yX1_giveNumbers cX1_giveNumbers 3 none [.ref ((wC b).2.2.2 + 89), .int p1] M finV (mk_giveNumbers p1 M) := by
  refine CT.of rfl (Nat.le_of_ble_eq_true rfl) (catc rfl (catc rfl cat0)) (fun z C => ?_)
  have C : Cx z l g (wC b) (rmd 5) cX1_giveNumbers 3 RX1 none := C
  refine x_wk (L' := [some (.ref ((wC b).2.2.2 + 89)), some (.int p1), none]) (And.intro rfl (And.intro rfl trivial)) ?_
  rw [mk_giveNumbers]
  refine x_aloadn C dX1_giveNumbers_0 rfl ?_
  refine x_getR C fl_X1_54 cl_1 (58) nC89 kC89 fC89_1 dX1_giveNumbers_1 ?_
  refine x_aloadn C dX1_giveNumbers_4 rfl ?_
  refine x_getI C fl_X1_28 cl_1 nC89 kC89 fC89_7 dX1_giveNumbers_5 ?_
  refine x_iloadn C dX1_giveNumbers_8 (x := p1) rfl ?_
  refine x_Vv (st := []) C (c_ru_setHour (Or.inl rfl) ((M 89 7)) (p1) M) lk_X1_97 nC58 kC58 ⟨_, _, rfl⟩ rfl rfl (Nat.le_of_ble_eq_true rfl) (rmok_d (by decide) (by decide)) ⟨Nat.zero_le _, Nat.zero_le _⟩ dX1_giveNumbers_9 (fun M1 => ?_)
  refine x_iconst C dX1_giveNumbers_12 (v := (0 : Int32)) (by decide) ?_
  refine x_istoren C dX1_giveNumbers_13 (L' := [some (.ref ((wC b).2.2.2 + 89)), some (.int p1), some (.int (0 : Int32))]) (ltb rfl) rfl ?_
  refine x_wk (L' := [some (.ref ((wC b).2.2.2 + 89)), some (.int p1), some (.int (0 : Int32))]) (And.intro rfl (And.intro rfl (And.intro rfl trivial))) (w_mk_giveNumbers_L14 C p1   (fun M8 => ?_) FU ((0 : Int32)) M1)
  exact x_vret C dX1_giveNumbers_69 rfl
def mk_nextToAsk_L4 (M : Mem) (K : Int32 → Option Int32) : Nat → Int32 → Int32 → Option Int32
  | 0, _, _ => none
  | fu + 1, x1, x2 => (if x2 < (M 89 7) then chk (inb x2 40) ((if (M 93 x2.toNatClampNeg) = 0 then (if x1 = (-1 : Int32) then mk_nextToAsk_L4 M K fu (x2) ((x2 + (1 : Int32))) else chk (inb x2 40) (chk (inb x1 40) ((if (M 92 x1.toNatClampNeg) < (M 92 x2.toNatClampNeg) then mk_nextToAsk_L4 M K fu (x2) ((x2 + (1 : Int32))) else mk_nextToAsk_L4 M K fu (x1) ((x2 + (1 : Int32))))))) else mk_nextToAsk_L4 M K fu (x1) ((x2 + (1 : Int32))))) else K (x1))
def mk_nextToAsk (M : Mem) : Option Int32 := mk_nextToAsk_L4 M (fun v1_0 => some ((imax v1_0 (0 : Int32)))) FU ((-1 : Int32)) ((0 : Int32))
set_option maxHeartbeats 4000000 in
set_option maxRecDepth 20000 in
theorem w_mk_nextToAsk_L4 {z : ZT} {l : Launch} {g : GG} {b : Nat} (C : Cx z l g (wC b) (rmd 2) cX1_nextToAsk 3 RX1 (some .int)) (M : Mem) {K : Int32 → Option Int32} (hK : ∀ (x1 : Int32) , XG z g (wC b) 3 (ZQ z g (wC b) (finI M)) 0 0 49 [none, some (.int x1), none] [] M (K x1)) : ∀ (fu : Nat) (x1 : Int32) (x2 : Int32), XG z g (wC b) 3 (ZQ z g (wC b) (finI M)) 0 0 4 [some (.ref ((wC b).2.2.2 + 89)), some (.int x1), some (.int x2)] [] M (mk_nextToAsk_L4 M K fu x1 x2) := by
  intro fu
  induction fu with
  | zero => intro x1 x2; exact x_none
  | succ fu ih =>
    intro x1 x2
    rw [mk_nextToAsk_L4]
    refine x_iloadn C dX1_nextToAsk_4 (x := x2) rfl ?_
    refine x_aloadn C dX1_nextToAsk_5 rfl ?_
    refine x_getI C fl_X1_28 cl_1 nC89 kC89 fC89_7 dX1_nextToAsk_6 ?_
    refine x_icmpge C dX1_nextToAsk_9 (tgt := 49) (by decide) (fun _h => ?_) (fun _h => ?_)
    · exact x_wk (L' := [none, some (.int x1), none]) (And.intro rfl trivial) (hK (x1))
    · refine x_aloadn C dX1_nextToAsk_12 rfl ?_
      refine x_getR C fl_X1_21 cl_1 (93) nC89 kC89 fC89_5 dX1_nextToAsk_13 ?_
      refine x_iloadn C dX1_nextToAsk_16 (x := x2) rfl ?_
      refine x_zald C nC93 kC93 dX1_nextToAsk_17 ?_
      refine x_ifne C dX1_nextToAsk_18 (tgt := 43) (by decide) (fun _h => ?_) (fun _h => ?_)
      · refine x_iinc C dX1_nextToAsk_43 (v := (x2 + (1 : Int32))) rfl rfl (L' := [some (.ref ((wC b).2.2.2 + 89)), some (.int x1), some (.int (x2 + (1 : Int32)))]) rfl ?_
        refine x_goto C dX1_nextToAsk_46 (tgt := 4) (by decide) ?_
        exact x_wk (L' := [some (.ref ((wC b).2.2.2 + 89)), some (.int x1), some (.int (x2 + (1 : Int32)))]) (And.intro rfl (And.intro rfl (And.intro rfl trivial))) (ih (x1) ((x2 + (1 : Int32))))
      · refine x_iloadn C dX1_nextToAsk_21 (x := x1) rfl ?_
        refine x_iconst C dX1_nextToAsk_22 (v := (-1 : Int32)) (by decide) ?_
        refine x_icmpeq C dX1_nextToAsk_23 (tgt := 41) (by decide) (fun _h => ?_) (fun _h => ?_)
        · refine x_iloadn C dX1_nextToAsk_41 (x := x2) rfl ?_
          refine x_istoren C dX1_nextToAsk_42 (L' := [some (.ref ((wC b).2.2.2 + 89)), some (.int x2), some (.int x2)]) (ltb rfl) rfl ?_
          refine x_iinc C dX1_nextToAsk_43 (v := (x2 + (1 : Int32))) rfl rfl (L' := [some (.ref ((wC b).2.2.2 + 89)), some (.int x2), some (.int (x2 + (1 : Int32)))]) rfl ?_
          refine x_goto C dX1_nextToAsk_46 (tgt := 4) (by decide) ?_
          exact x_wk (L' := [some (.ref ((wC b).2.2.2 + 89)), some (.int x2), some (.int (x2 + (1 : Int32)))]) (And.intro rfl (And.intro rfl (And.intro rfl trivial))) (ih (x2) ((x2 + (1 : Int32))))
        · refine x_aloadn C dX1_nextToAsk_26 rfl ?_
          refine x_getR C fl_X1_18 cl_1 (92) nC89 kC89 fC89_4 dX1_nextToAsk_27 ?_
          refine x_iloadn C dX1_nextToAsk_30 (x := x2) rfl ?_
          refine x_iald C nC92 kC92 dX1_nextToAsk_31 ?_
          refine x_aloadn C dX1_nextToAsk_32 rfl ?_
          refine x_getR C fl_X1_18 cl_1 (92) nC89 kC89 fC89_4 dX1_nextToAsk_33 ?_
          refine x_iloadn C dX1_nextToAsk_36 (x := x1) rfl ?_
          refine x_iald C nC92 kC92 dX1_nextToAsk_37 ?_
          refine x_icmple C dX1_nextToAsk_38 (tgt := 43) (by decide) (fun _h => ?_) (fun _h => ?_)
          · refine x_iinc C dX1_nextToAsk_43 (v := (x2 + (1 : Int32))) rfl rfl (L' := [some (.ref ((wC b).2.2.2 + 89)), some (.int x1), some (.int (x2 + (1 : Int32)))]) rfl ?_
            refine x_goto C dX1_nextToAsk_46 (tgt := 4) (by decide) ?_
            exact x_wk (L' := [some (.ref ((wC b).2.2.2 + 89)), some (.int x1), some (.int (x2 + (1 : Int32)))]) (And.intro rfl (And.intro rfl (And.intro rfl trivial))) (ih (x1) ((x2 + (1 : Int32))))
          · refine x_iloadn C dX1_nextToAsk_41 (x := x2) rfl ?_
            refine x_istoren C dX1_nextToAsk_42 (L' := [some (.ref ((wC b).2.2.2 + 89)), some (.int x2), some (.int x2)]) (ltb rfl) rfl ?_
            refine x_iinc C dX1_nextToAsk_43 (v := (x2 + (1 : Int32))) rfl rfl (L' := [some (.ref ((wC b).2.2.2 + 89)), some (.int x2), some (.int (x2 + (1 : Int32)))]) rfl ?_
            refine x_goto C dX1_nextToAsk_46 (tgt := 4) (by decide) ?_
            exact x_wk (L' := [some (.ref ((wC b).2.2.2 + 89)), some (.int x2), some (.int (x2 + (1 : Int32)))]) (And.intro rfl (And.intro rfl (And.intro rfl trivial))) (ih (x2) ((x2 + (1 : Int32))))
set_option maxHeartbeats 4000000 in
set_option maxRecDepth 20000 in
theorem c_mk_nextToAsk {l : Launch} {g : GG} {b : Nat} (M : Mem) : CT l g (wC b) (rmd 2) yX1_nextToAsk cX1_nextToAsk 3 (some .int) [.ref ((wC b).2.2.2 + 89)] M (finI M) (mk_nextToAsk  M) := by
  refine CT.of rfl (Nat.le_of_ble_eq_true rfl) (catc rfl cat0) (fun z C => ?_)
  have C : Cx z l g (wC b) (rmd 2) cX1_nextToAsk 3 RX1 (some .int) := C
  refine x_wk (L' := [some (.ref ((wC b).2.2.2 + 89)), none, none]) (And.intro rfl trivial) ?_
  rw [mk_nextToAsk]
  refine x_iconst C dX1_nextToAsk_0 (v := (-1 : Int32)) (by decide) ?_
  refine x_istoren C dX1_nextToAsk_1 (L' := [some (.ref ((wC b).2.2.2 + 89)), some (.int (-1 : Int32)), none]) (ltb rfl) rfl ?_
  refine x_iconst C dX1_nextToAsk_2 (v := (0 : Int32)) (by decide) ?_
  refine x_istoren C dX1_nextToAsk_3 (L' := [some (.ref ((wC b).2.2.2 + 89)), some (.int (-1 : Int32)), some (.int (0 : Int32))]) (ltb rfl) rfl ?_
  refine x_wk (L' := [some (.ref ((wC b).2.2.2 + 89)), some (.int (-1 : Int32)), some (.int (0 : Int32))]) (And.intro rfl (And.intro rfl (And.intro rfl trivial))) (w_mk_nextToAsk_L4 C   M (fun v1_0 => ?_) FU ((-1 : Int32)) ((0 : Int32)) )
  refine x_iloadn C dX1_nextToAsk_49 (x := v1_0) rfl ?_
  refine x_iconst C dX1_nextToAsk_50 (v := (0 : Int32)) (by decide) ?_
  refine x_max C lm_X1_105 (Nat.le_of_ble_eq_true rfl) ⟨by decide, by decide⟩ ⟨Nat.zero_le _, Nat.zero_le _⟩ dX1_nextToAsk_51 ?_
  exact x_iret C dX1_nextToAsk_54 rfl
def mk_bears (p1 : Int32) (p2 : Int32) (M : Mem) : Option Int32 := (mv_ropeBears (p1) M).bind fun v1 => (if v1 = 0 then some ((0 : Int32)) else (mv_needFor (p1) M).bind fun v2 => (if p2 < v2 then some ((0 : Int32)) else some ((1 : Int32))))
set_option maxHeartbeats 4000000 in
set_option maxRecDepth 20000 in
theorem c_mk_bears {l : Launch} {g : GG} {b : Nat} (p1 : Int32) (p2 : Int32) (M : Mem) : CT l g (wC b) (rmd 2) yX1_bears cX1_bears 3 (some .boolean) [.ref ((wC b).2.2.2 + 89), .int p1, .int p2] M (finI M) (mk_bears p1 p2 M) := by
  refine CT.of rfl (Nat.le_of_ble_eq_true rfl) (catc rfl (catc rfl (catc rfl cat0))) (fun z C => ?_)
  have C : Cx z l g (wC b) (rmd 2) cX1_bears 3 RX1 (some .boolean) := C
  refine x_wk (L' := [some (.ref ((wC b).2.2.2 + 89)), some (.int p1), some (.int p2)]) (And.intro rfl (And.intro rfl (And.intro rfl trivial))) ?_
  rw [mk_bears]
  refine x_aloadn C dX1_bears_0 rfl ?_
  refine x_getR C fl_X1_50 cl_1 (75) nC89 kC89 fC89_0 dX1_bears_1 ?_
  refine x_iloadn C dX1_bears_4 (x := p1) rfl ?_
  refine x_Vi (st := []) C (c_mv_ropeBears  (p1) M) lk_X1_110 nC75 kC75 ⟨_, _, rfl⟩ rfl rfl (Nat.le_of_ble_eq_true rfl) (rmok_d (by decide) (by decide)) ⟨Nat.zero_le _, Nat.zero_le _⟩ dX1_bears_5 (fun v1 => ?_)
  refine x_ifeq C dX1_bears_8 (tgt := 27) (by decide) (fun _h => ?_) (fun _h => ?_)
  · refine x_iconst C dX1_bears_27 (v := (0 : Int32)) (by decide) ?_
    exact x_zret C dX1_bears_28 rfl rfl
  · refine x_aloadn C dX1_bears_11 rfl ?_
    refine x_getR C fl_X1_50 cl_1 (75) nC89 kC89 fC89_0 dX1_bears_12 ?_
    refine x_iloadn C dX1_bears_15 (x := p1) rfl ?_
    refine x_Vi (st := []) C (c_mv_needFor  (p1) M) lk_X1_88 nC75 kC75 ⟨_, _, rfl⟩ rfl rfl (Nat.le_of_ble_eq_true rfl) (rmok_d (by decide) (by decide)) ⟨Nat.zero_le _, Nat.zero_le _⟩ dX1_bears_16 (fun v2 => ?_)
    refine x_iloadn C dX1_bears_19 (x := p2) rfl ?_
    refine x_icmpgt C dX1_bears_20 (tgt := 27) (by decide) (fun _h => ?_) (fun _h => ?_)
    · refine x_iconst C dX1_bears_27 (v := (0 : Int32)) (by decide) ?_
      exact x_zret C dX1_bears_28 rfl rfl
    · refine x_iconst C dX1_bears_23 (v := (1 : Int32)) (by decide) ?_
      refine x_goto C dX1_bears_24 (tgt := 28) (by decide) ?_
      exact x_zret C dX1_bears_28 rfl rfl
def mk_leave_L4 (p1 : Int32) (K : Int32 → Mem → Option Mem) : Nat → Int32 → Int32 → Mem → Option Mem
  | 0, _, _, _ => none
  | fu + 1, x2, x3, M => (if x3 < (M 89 7) then chk (inb x3 40) ((if (M 94 x3.toNatClampNeg) = 0 then chk (inb x3 40) (chk (inb x2 40) (lt1 (wr M 90 x2.toNatClampNeg (M 90 x3.toNatClampNeg)) fun M1 => chk (inb x3 40) (chk (inb x2 40) (lt1 (wr M1 91 x2.toNatClampNeg (M1 91 x3.toNatClampNeg)) fun M2 => mk_leave_L4 p1 K fu ((x2 + (1 : Int32))) ((x3 + (1 : Int32))) (M2))))) else chk (inb x3 40) (lt1 (wr M 89 9 ((M 89 9) + (1 : Int32))) fun M3 => lt1 (wr M3 89 12 ((M3 89 12) + (p1 - (M 90 x3.toNatClampNeg)))) fun M4 => lt1 (wr M4 89 11 (imax (M4 89 11) (p1 - (M 90 x3.toNatClampNeg)))) fun M5 => mk_leave_L4 p1 K fu (x2) ((x3 + (1 : Int32))) (M5)))) else K (x2) (M))
def mk_leave (p1 : Int32) (M : Mem) : Option Mem := mk_leave_L4 p1 (fun v2_5 M7 => lt1 (wr M7 89 7 v2_5) fun M8 => some M8) FU ((0 : Int32)) ((0 : Int32)) M
set_option maxHeartbeats 4000000 in
set_option maxRecDepth 20000 in
theorem w_mk_leave_L4 {z : ZT} {l : Launch} {g : GG} {b : Nat} (C : Cx z l g (wC b) (rmd 2) cX1_leave 5 RX1 none) (p1 : Int32) {K : Int32 → Mem → Option Mem} (hK : ∀ (x2 : Int32) (M : Mem) , XG z g (wC b) 5 (ZQ z g (wC b) finV) 0 0 101 [some (.ref ((wC b).2.2.2 + 89)), none, some (.int x2), none, none] [] M (K x2 M)) : ∀ (fu : Nat) (x2 : Int32) (x3 : Int32) (M : Mem), XG z g (wC b) 5 (ZQ z g (wC b) finV) 0 0 4 [some (.ref ((wC b).2.2.2 + 89)), some (.int p1), some (.int x2), some (.int x3), none] [] M (mk_leave_L4 p1 K fu x2 x3 M) := by
  intro fu
  induction fu with
  | zero => intro x2 x3 M; exact x_none
  | succ fu ih =>
    intro x2 x3 M
    rw [mk_leave_L4]
    refine x_iloadn C dX1_leave_4 (x := x3) rfl ?_
    refine x_aloadn C dX1_leave_5 rfl ?_
    refine x_getI C fl_X1_28 cl_1 nC89 kC89 fC89_7 dX1_leave_6 ?_
    refine x_icmpge C dX1_leave_9 (tgt := 101) (by decide) (fun _h => ?_) (fun _h => ?_)
    · exact x_wk (L' := [some (.ref ((wC b).2.2.2 + 89)), none, some (.int x2), none, none]) (And.intro rfl (And.intro rfl trivial)) (hK (x2) (M))
    · refine x_aloadn C dX1_leave_12 rfl ?_
      refine x_getR C fl_X1_25 cl_1 (94) nC89 kC89 fC89_6 dX1_leave_13 ?_
      refine x_iloadn C dX1_leave_16 (x := x3) rfl ?_
      refine x_zald C nC94 kC94 dX1_leave_17 ?_
      refine x_ifeq C dX1_leave_18 (tgt := 68) (by decide) (fun _h => ?_) (fun _h => ?_)
      · refine x_aloadn C dX1_leave_68 rfl ?_
        refine x_getR C fl_X1_11 cl_1 (90) nC89 kC89 fC89_2 dX1_leave_69 ?_
        refine x_iloadn C dX1_leave_72 (x := x2) rfl ?_
        refine x_aloadn C dX1_leave_73 rfl ?_
        refine x_getR C fl_X1_11 cl_1 (90) nC89 kC89 fC89_2 dX1_leave_74 ?_
        refine x_iloadn C dX1_leave_77 (x := x3) rfl ?_
        refine x_iald C nC90 kC90 dX1_leave_78 ?_
        refine x_iast C nC90 kC90 dX1_leave_79 ?_
        refine x_ltM (fun M1 => ?_)
        refine x_aloadn C dX1_leave_80 rfl ?_
        refine x_getR C fl_X1_15 cl_1 (91) nC89 kC89 fC89_3 dX1_leave_81 ?_
        refine x_iloadn C dX1_leave_84 (x := x2) rfl ?_
        refine x_aloadn C dX1_leave_85 rfl ?_
        refine x_getR C fl_X1_15 cl_1 (91) nC89 kC89 fC89_3 dX1_leave_86 ?_
        refine x_iloadn C dX1_leave_89 (x := x3) rfl ?_
        refine x_iald C nC91 kC91 dX1_leave_90 ?_
        refine x_iast C nC91 kC91 dX1_leave_91 ?_
        refine x_ltM (fun M2 => ?_)
        refine x_iinc C dX1_leave_92 (v := (x2 + (1 : Int32))) rfl rfl (L' := [some (.ref ((wC b).2.2.2 + 89)), some (.int p1), some (.int (x2 + (1 : Int32))), some (.int x3), none]) rfl ?_
        refine x_iinc C dX1_leave_95 (v := (x3 + (1 : Int32))) rfl rfl (L' := [some (.ref ((wC b).2.2.2 + 89)), some (.int p1), some (.int (x2 + (1 : Int32))), some (.int (x3 + (1 : Int32))), none]) rfl ?_
        refine x_goto C dX1_leave_98 (tgt := 4) (by decide) ?_
        exact x_wk (L' := [some (.ref ((wC b).2.2.2 + 89)), some (.int p1), some (.int (x2 + (1 : Int32))), some (.int (x3 + (1 : Int32))), none]) (And.intro rfl (And.intro rfl (And.intro rfl (And.intro rfl trivial)))) (ih ((x2 + (1 : Int32))) ((x3 + (1 : Int32))) (M2))
      · refine x_iloadn C dX1_leave_21 (x := p1) rfl ?_
        refine x_aloadn C dX1_leave_22 rfl ?_
        refine x_getR C fl_X1_11 cl_1 (90) nC89 kC89 fC89_2 dX1_leave_23 ?_
        refine x_iloadn C dX1_leave_26 (x := x3) rfl ?_
        refine x_iald C nC90 kC90 dX1_leave_27 ?_
        refine x_isub C dX1_leave_28 ?_
        refine x_istore C dX1_leave_29 (L' := [some (.ref ((wC b).2.2.2 + 89)), some (.int p1), some (.int x2), some (.int x3), some (.int (p1 - (M 90 x3.toNatClampNeg)))]) (ltb rfl) rfl ?_
        refine x_aloadn C dX1_leave_31 rfl ?_
        refine x_dup C dX1_leave_32 rfl ?_
        refine x_getI C fl_X1_35 cl_1 nC89 kC89 fC89_9 dX1_leave_33 ?_
        refine x_iconst C dX1_leave_36 (v := (1 : Int32)) (by decide) ?_
        refine x_iadd C dX1_leave_37 ?_
        refine x_putI C fl_X1_35 cl_1 fint_1_9 nC89 kC89 fC89_9 dX1_leave_38 ?_
        refine x_ltM (fun M3 => ?_)
        refine x_aloadn C dX1_leave_41 rfl ?_
        refine x_dup C dX1_leave_42 rfl ?_
        refine x_getI C fl_X1_44 cl_1 nC89 kC89 fC89_12 dX1_leave_43 ?_
        refine x_iload C dX1_leave_46 (x := (p1 - (M 90 x3.toNatClampNeg))) rfl ?_
        refine x_iadd C dX1_leave_48 ?_
        refine x_putI C fl_X1_44 cl_1 fint_1_12 nC89 kC89 fC89_12 dX1_leave_49 ?_
        refine x_ltM (fun M4 => ?_)
        refine x_aloadn C dX1_leave_52 rfl ?_
        refine x_aloadn C dX1_leave_53 rfl ?_
        refine x_getI C fl_X1_41 cl_1 nC89 kC89 fC89_11 dX1_leave_54 ?_
        refine x_iload C dX1_leave_57 (x := (p1 - (M 90 x3.toNatClampNeg))) rfl ?_
        refine x_max C lm_X1_105 (Nat.le_of_ble_eq_true rfl) ⟨by decide, by decide⟩ ⟨Nat.zero_le _, Nat.zero_le _⟩ dX1_leave_59 ?_
        refine x_putI C fl_X1_41 cl_1 fint_1_11 nC89 kC89 fC89_11 dX1_leave_62 ?_
        refine x_ltM (fun M5 => ?_)
        refine x_goto C dX1_leave_65 (tgt := 95) (by decide) ?_
        refine x_iinc C dX1_leave_95 (v := (x3 + (1 : Int32))) rfl rfl (L' := [some (.ref ((wC b).2.2.2 + 89)), some (.int p1), some (.int x2), some (.int (x3 + (1 : Int32))), some (.int (p1 - (M 90 x3.toNatClampNeg)))]) rfl ?_
        refine x_goto C dX1_leave_98 (tgt := 4) (by decide) ?_
        exact x_wk (L' := [some (.ref ((wC b).2.2.2 + 89)), some (.int p1), some (.int x2), some (.int (x3 + (1 : Int32))), none]) (And.intro rfl (And.intro rfl (And.intro rfl (And.intro rfl trivial)))) (ih (x2) ((x3 + (1 : Int32))) (M5))
set_option maxHeartbeats 4000000 in
set_option maxRecDepth 20000 in
theorem c_mk_leave {l : Launch} {g : GG} {b : Nat} (p1 : Int32) (M : Mem) : CT l g (wC b) (rmd 2) yX1_leave cX1_leave 5 none [.ref ((wC b).2.2.2 + 89), .int p1] M finV (mk_leave p1 M) := by
  refine CT.of rfl (Nat.le_of_ble_eq_true rfl) (catc rfl (catc rfl cat0)) (fun z C => ?_)
  have C : Cx z l g (wC b) (rmd 2) cX1_leave 5 RX1 none := C
  refine x_wk (L' := [some (.ref ((wC b).2.2.2 + 89)), some (.int p1), none, none, none]) (And.intro rfl (And.intro rfl trivial)) ?_
  rw [mk_leave]
  refine x_iconst C dX1_leave_0 (v := (0 : Int32)) (by decide) ?_
  refine x_istoren C dX1_leave_1 (L' := [some (.ref ((wC b).2.2.2 + 89)), some (.int p1), some (.int (0 : Int32)), none, none]) (ltb rfl) rfl ?_
  refine x_iconst C dX1_leave_2 (v := (0 : Int32)) (by decide) ?_
  refine x_istoren C dX1_leave_3 (L' := [some (.ref ((wC b).2.2.2 + 89)), some (.int p1), some (.int (0 : Int32)), some (.int (0 : Int32)), none]) (ltb rfl) rfl ?_
  refine x_wk (L' := [some (.ref ((wC b).2.2.2 + 89)), some (.int p1), some (.int (0 : Int32)), some (.int (0 : Int32)), none]) (And.intro rfl (And.intro rfl (And.intro rfl (And.intro rfl trivial)))) (w_mk_leave_L4 C p1   (fun v2_5 M7 => ?_) FU ((0 : Int32)) ((0 : Int32)) M)
  refine x_aloadn C dX1_leave_101 rfl ?_
  refine x_iloadn C dX1_leave_102 (x := v2_5) rfl ?_
  refine x_putI C fl_X1_28 cl_1 fint_1_7 nC89 kC89 fC89_7 dX1_leave_103 ?_
  refine x_ltM (fun M8 => ?_)
  exact x_vret C dX1_leave_106 rfl
def mk_minutesAway_L10 (p1 : Int32) (p2 : Int32) (K : Int32 → Mem → Option (Int32 × Mem)) : Nat → Int32 → Int32 → Mem → Option (Int32 × Mem)
  | 0, _, _, _ => none
  | fu + 1, x3, x4, M => (if x4 < (M 89 7) then (mk_nextToAsk M).bind fun v2 => chk (inb v2 40) (lt1 (wr M 93 v2.toNatClampNeg (1 : Int32)) fun M3 => chk (inb v2 40) ((mk_bears ((x3 + (M3 91 v2.toNatClampNeg))) (p2) M3).bind fun v4 => (if v4 = 0 then mk_minutesAway_L10 p1 p2 K fu (x3) ((x4 + (1 : Int32))) (M3) else chk (inb v2 40) (lt1 (wr M3 94 v2.toNatClampNeg (1 : Int32)) fun M5 => chk (inb v2 40) (mk_minutesAway_L10 p1 p2 K fu ((x3 + (M5 91 v2.toNatClampNeg))) ((x4 + (1 : Int32))) (M5)))))) else K (x3) (M))
def mk_minutesAway (p1 : Int32) (p2 : Int32) (M : Mem) : Option (Int32 × Mem) := (mk_giveNumbers (p1) M).bind fun M1 => mk_minutesAway_L10 p1 p2 (fun v3_5 M7 => (if v3_5 = 0 then some ((0 : Int32), M7) else (mk_leave (p1) M7).bind fun M8 => lt1 (wr M8 89 13 ((M8 89 13) + (1 : Int32))) fun M9 => (mv_needFor (v3_5) M9).bind fun v10 => (mv_minutesFor (v10) (p2) M9).bind fun v11 => (mv_needFor ((0 : Int32)) M9).bind fun v12 => (mv_minutesFor (v12) (p2) M9).bind fun v13 => some ((v11 + v13), M9))) FU ((0 : Int32)) ((0 : Int32)) M1
set_option maxHeartbeats 4000000 in
set_option maxRecDepth 20000 in
theorem w_mk_minutesAway_L10 {z : ZT} {l : Launch} {g : GG} {b : Nat} (C : Cx z l g (wC b) (rmd 6) cX1_minutesAway 6 RX1 (some .int)) (p1 : Int32) (p2 : Int32) {K : Int32 → Mem → Option (Int32 × Mem)} (hK : ∀ (x3 : Int32) (M : Mem) , XG z g (wC b) 6 (ZQ z g (wC b) finM) 0 0 74 [some (.ref ((wC b).2.2.2 + 89)), some (.int p1), some (.int p2), some (.int x3), none, none] [] M (K x3 M)) : ∀ (fu : Nat) (x3 : Int32) (x4 : Int32) (M : Mem), XG z g (wC b) 6 (ZQ z g (wC b) finM) 0 0 10 [some (.ref ((wC b).2.2.2 + 89)), some (.int p1), some (.int p2), some (.int x3), some (.int x4), none] [] M (mk_minutesAway_L10 p1 p2 K fu x3 x4 M) := by
  intro fu
  induction fu with
  | zero => intro x3 x4 M; exact x_none
  | succ fu ih =>
    intro x3 x4 M
    rw [mk_minutesAway_L10]
    refine x_iload C dX1_minutesAway_10 (x := x4) rfl ?_
    refine x_aloadn C dX1_minutesAway_12 rfl ?_
    refine x_getI C fl_X1_28 cl_1 nC89 kC89 fC89_7 dX1_minutesAway_13 ?_
    refine x_icmpge C dX1_minutesAway_16 (tgt := 74) (by decide) (fun _h => ?_) (fun _h => ?_)
    · exact x_wk (L' := [some (.ref ((wC b).2.2.2 + 89)), some (.int p1), some (.int p2), some (.int x3), none, none]) (And.intro rfl (And.intro rfl (And.intro rfl (And.intro rfl trivial)))) (hK (x3) (M))
    · refine x_aloadn C dX1_minutesAway_19 rfl ?_
      refine x_Vi (st := []) C (c_mk_nextToAsk   M) lk_X1_78 nC89 kC89 ⟨_, _, rfl⟩ rfl rfl (Nat.le_of_ble_eq_true rfl) (rmok_d (by decide) (by decide)) ⟨Nat.zero_le _, Nat.zero_le _⟩ dX1_minutesAway_20 (fun v2 => ?_)
      refine x_istore C dX1_minutesAway_23 (L' := [some (.ref ((wC b).2.2.2 + 89)), some (.int p1), some (.int p2), some (.int x3), some (.int x4), some (.int v2)]) (ltb rfl) rfl ?_
      refine x_aloadn C dX1_minutesAway_25 rfl ?_
      refine x_getR C fl_X1_21 cl_1 (93) nC89 kC89 fC89_5 dX1_minutesAway_26 ?_
      refine x_iload C dX1_minutesAway_29 (x := v2) rfl ?_
      refine x_iconst C dX1_minutesAway_31 (v := (1 : Int32)) (by decide) ?_
      refine x_zast C nC93 kC93 (by decide) dX1_minutesAway_32 ?_
      refine x_ltM (fun M3 => ?_)
      refine x_aloadn C dX1_minutesAway_33 rfl ?_
      refine x_iloadn C dX1_minutesAway_34 (x := x3) rfl ?_
      refine x_aloadn C dX1_minutesAway_35 rfl ?_
      refine x_getR C fl_X1_15 cl_1 (91) nC89 kC89 fC89_3 dX1_minutesAway_36 ?_
      refine x_iload C dX1_minutesAway_39 (x := v2) rfl ?_
      refine x_iald C nC91 kC91 dX1_minutesAway_41 ?_
      refine x_iadd C dX1_minutesAway_42 ?_
      refine x_iloadn C dX1_minutesAway_43 (x := p2) rfl ?_
      refine x_Vi (st := []) C (c_mk_bears  ((x3 + (M3 91 v2.toNatClampNeg))) (p2) M3) lk_X1_81 nC89 kC89 ⟨_, _, rfl⟩ rfl rfl (Nat.le_of_ble_eq_true rfl) (rmok_d (by decide) (by decide)) ⟨Nat.zero_le _, Nat.zero_le _⟩ dX1_minutesAway_44 (fun v4 => ?_)
      refine x_ifeq C dX1_minutesAway_47 (tgt := 68) (by decide) (fun _h => ?_) (fun _h => ?_)
      · refine x_iinc C dX1_minutesAway_68 (v := (x4 + (1 : Int32))) rfl rfl (L' := [some (.ref ((wC b).2.2.2 + 89)), some (.int p1), some (.int p2), some (.int x3), some (.int (x4 + (1 : Int32))), some (.int v2)]) rfl ?_
        refine x_goto C dX1_minutesAway_71 (tgt := 10) (by decide) ?_
        exact x_wk (L' := [some (.ref ((wC b).2.2.2 + 89)), some (.int p1), some (.int p2), some (.int x3), some (.int (x4 + (1 : Int32))), none]) (And.intro rfl (And.intro rfl (And.intro rfl (And.intro rfl (And.intro rfl trivial))))) (ih (x3) ((x4 + (1 : Int32))) (M3))
      · refine x_aloadn C dX1_minutesAway_50 rfl ?_
        refine x_getR C fl_X1_25 cl_1 (94) nC89 kC89 fC89_6 dX1_minutesAway_51 ?_
        refine x_iload C dX1_minutesAway_54 (x := v2) rfl ?_
        refine x_iconst C dX1_minutesAway_56 (v := (1 : Int32)) (by decide) ?_
        refine x_zast C nC94 kC94 (by decide) dX1_minutesAway_57 ?_
        refine x_ltM (fun M5 => ?_)
        refine x_iloadn C dX1_minutesAway_58 (x := x3) rfl ?_
        refine x_aloadn C dX1_minutesAway_59 rfl ?_
        refine x_getR C fl_X1_15 cl_1 (91) nC89 kC89 fC89_3 dX1_minutesAway_60 ?_
        refine x_iload C dX1_minutesAway_63 (x := v2) rfl ?_
        refine x_iald C nC91 kC91 dX1_minutesAway_65 ?_
        refine x_iadd C dX1_minutesAway_66 ?_
        refine x_istoren C dX1_minutesAway_67 (L' := [some (.ref ((wC b).2.2.2 + 89)), some (.int p1), some (.int p2), some (.int (x3 + (M5 91 v2.toNatClampNeg))), some (.int x4), some (.int v2)]) (ltb rfl) rfl ?_
        refine x_iinc C dX1_minutesAway_68 (v := (x4 + (1 : Int32))) rfl rfl (L' := [some (.ref ((wC b).2.2.2 + 89)), some (.int p1), some (.int p2), some (.int (x3 + (M5 91 v2.toNatClampNeg))), some (.int (x4 + (1 : Int32))), some (.int v2)]) rfl ?_
        refine x_goto C dX1_minutesAway_71 (tgt := 10) (by decide) ?_
        exact x_wk (L' := [some (.ref ((wC b).2.2.2 + 89)), some (.int p1), some (.int p2), some (.int (x3 + (M5 91 v2.toNatClampNeg))), some (.int (x4 + (1 : Int32))), none]) (And.intro rfl (And.intro rfl (And.intro rfl (And.intro rfl (And.intro rfl trivial))))) (ih ((x3 + (M5 91 v2.toNatClampNeg))) ((x4 + (1 : Int32))) (M5))
set_option maxHeartbeats 4000000 in
set_option maxRecDepth 20000 in
theorem c_mk_minutesAway {l : Launch} {g : GG} {b : Nat} (p1 : Int32) (p2 : Int32) (M : Mem) : CT l g (wC b) (rmd 6) yX1_minutesAway cX1_minutesAway 6 (some .int) [.ref ((wC b).2.2.2 + 89), .int p1, .int p2] M finM (mk_minutesAway p1 p2 M) := by
  refine CT.of rfl (Nat.le_of_ble_eq_true rfl) (catc rfl (catc rfl (catc rfl cat0))) (fun z C => ?_)
  have C : Cx z l g (wC b) (rmd 6) cX1_minutesAway 6 RX1 (some .int) := C
  refine x_wk (L' := [some (.ref ((wC b).2.2.2 + 89)), some (.int p1), some (.int p2), none, none, none]) (And.intro rfl (And.intro rfl (And.intro rfl trivial))) ?_
  rw [mk_minutesAway]
  refine x_aloadn C dX1_minutesAway_0 rfl ?_
  refine x_iloadn C dX1_minutesAway_1 (x := p1) rfl ?_
  refine x_Vv (st := []) C (c_mk_giveNumbers  (p1) M) lk_X1_75 nC89 kC89 ⟨_, _, rfl⟩ rfl rfl (Nat.le_of_ble_eq_true rfl) (rmok_d (by decide) (by decide)) ⟨Nat.zero_le _, Nat.zero_le _⟩ dX1_minutesAway_2 (fun M1 => ?_)
  refine x_iconst C dX1_minutesAway_5 (v := (0 : Int32)) (by decide) ?_
  refine x_istoren C dX1_minutesAway_6 (L' := [some (.ref ((wC b).2.2.2 + 89)), some (.int p1), some (.int p2), some (.int (0 : Int32)), none, none]) (ltb rfl) rfl ?_
  refine x_iconst C dX1_minutesAway_7 (v := (0 : Int32)) (by decide) ?_
  refine x_istore C dX1_minutesAway_8 (L' := [some (.ref ((wC b).2.2.2 + 89)), some (.int p1), some (.int p2), some (.int (0 : Int32)), some (.int (0 : Int32)), none]) (ltb rfl) rfl ?_
  refine x_wk (L' := [some (.ref ((wC b).2.2.2 + 89)), some (.int p1), some (.int p2), some (.int (0 : Int32)), some (.int (0 : Int32)), none]) (And.intro rfl (And.intro rfl (And.intro rfl (And.intro rfl (And.intro rfl trivial))))) (w_mk_minutesAway_L10 C p1 p2   (fun v3_5 M7 => ?_) FU ((0 : Int32)) ((0 : Int32)) M1)
  refine x_iloadn C dX1_minutesAway_74 (x := v3_5) rfl ?_
  refine x_ifne C dX1_minutesAway_75 (tgt := 80) (by decide) (fun _h => ?_) (fun _h => ?_)
  · refine x_aloadn C dX1_minutesAway_80 rfl ?_
    refine x_iloadn C dX1_minutesAway_81 (x := p1) rfl ?_
    refine x_Vv (st := []) C (c_mk_leave  (p1) M7) lk_X1_85 nC89 kC89 ⟨_, _, rfl⟩ rfl rfl (Nat.le_of_ble_eq_true rfl) (rmok_d (by decide) (by decide)) ⟨Nat.zero_le _, Nat.zero_le _⟩ dX1_minutesAway_82 (fun M8 => ?_)
    refine x_aloadn C dX1_minutesAway_85 rfl ?_
    refine x_dup C dX1_minutesAway_86 rfl ?_
    refine x_getI C fl_X1_47 cl_1 nC89 kC89 fC89_13 dX1_minutesAway_87 ?_
    refine x_iconst C dX1_minutesAway_90 (v := (1 : Int32)) (by decide) ?_
    refine x_iadd C dX1_minutesAway_91 ?_
    refine x_putI C fl_X1_47 cl_1 fint_1_13 nC89 kC89 fC89_13 dX1_minutesAway_92 ?_
    refine x_ltM (fun M9 => ?_)
    refine x_aloadn C dX1_minutesAway_95 rfl ?_
    refine x_getR C fl_X1_50 cl_1 (75) nC89 kC89 fC89_0 dX1_minutesAway_96 ?_
    refine x_aloadn C dX1_minutesAway_99 rfl ?_
    refine x_getR C fl_X1_50 cl_1 (75) nC89 kC89 fC89_0 dX1_minutesAway_100 ?_
    refine x_iloadn C dX1_minutesAway_103 (x := v3_5) rfl ?_
    refine x_Vi (st := [.ref ((wC b).2.2.2 + 75)]) C (c_mv_needFor  (v3_5) M9) lk_X1_88 nC75 kC75 ⟨_, _, rfl⟩ rfl rfl (Nat.le_of_ble_eq_true rfl) (rmok_d (by decide) (by decide)) ⟨Nat.zero_le _, Nat.zero_le _⟩ dX1_minutesAway_104 (fun v10 => ?_)
    refine x_iloadn C dX1_minutesAway_107 (x := p2) rfl ?_
    refine x_Vi (st := []) C (c_mv_minutesFor  (v10) (p2) M9) lk_X1_94 nC75 kC75 ⟨_, _, rfl⟩ rfl rfl (Nat.le_of_ble_eq_true rfl) (rmok_d (by decide) (by decide)) ⟨Nat.zero_le _, Nat.zero_le _⟩ dX1_minutesAway_108 (fun v11 => ?_)
    refine x_aloadn C dX1_minutesAway_111 rfl ?_
    refine x_getR C fl_X1_50 cl_1 (75) nC89 kC89 fC89_0 dX1_minutesAway_112 ?_
    refine x_aloadn C dX1_minutesAway_115 rfl ?_
    refine x_getR C fl_X1_50 cl_1 (75) nC89 kC89 fC89_0 dX1_minutesAway_116 ?_
    refine x_iconst C dX1_minutesAway_119 (v := (0 : Int32)) (by decide) ?_
    refine x_Vi (st := [.ref ((wC b).2.2.2 + 75), .int v11]) C (c_mv_needFor  ((0 : Int32)) M9) lk_X1_88 nC75 kC75 ⟨_, _, rfl⟩ rfl rfl (Nat.le_of_ble_eq_true rfl) (rmok_d (by decide) (by decide)) ⟨Nat.zero_le _, Nat.zero_le _⟩ dX1_minutesAway_120 (fun v12 => ?_)
    refine x_iloadn C dX1_minutesAway_123 (x := p2) rfl ?_
    refine x_Vi (st := [.int v11]) C (c_mv_minutesFor  (v12) (p2) M9) lk_X1_94 nC75 kC75 ⟨_, _, rfl⟩ rfl rfl (Nat.le_of_ble_eq_true rfl) (rmok_d (by decide) (by decide)) ⟨Nat.zero_le _, Nat.zero_le _⟩ dX1_minutesAway_124 (fun v13 => ?_)
    refine x_iadd C dX1_minutesAway_127 ?_
    exact x_iret C dX1_minutesAway_128 rfl
  · refine x_iconst C dX1_minutesAway_78 (v := (0 : Int32)) (by decide) ?_
    exact x_iret C dX1_minutesAway_79 rfl
def mk_hold_J46 (p1 : Int32) (p2 : Int32) (p3 : Int32) (p4 : Int32) (rec : Int32 → Int32 → Mem → Option Mem) (K : Mem → Option Mem) (x5 : Int32) (x6 : Int32) (M : Mem) : Option Mem := (if x6 < x5 then rec (x5) ((x6 + (1 : Int32))) (M) else (if 0 < (M 89 7) then bnd2 (mk_minutesAway (x6) (p4) M) fun v5 M4 => rec ((x6 + v5)) ((x6 + (1 : Int32))) (M4) else rec (x5) ((x6 + (1 : Int32))) (M)))
def mk_hold_L11 (p1 : Int32) (p2 : Int32) (p3 : Int32) (p4 : Int32) (K : Mem → Option Mem) : Nat → Int32 → Int32 → Mem → Option Mem
  | 0, _, _, _ => none
  | fu + 1, x5, x6, M => (if x6 < p2 then bnd2 (mk_draw M) fun v3 M2 => (if (irem v3 (100 : Int32)) < p3 then bnd2 (mk_draw M2) fun v7 M6 => (mk_comeOne (x6) (((10 : Int32) * ((irem v7 (9 : Int32)) + (1 : Int32)))) M6).bind fun M8 => mk_hold_J46 p1 p2 p3 p4 (fun a5 a6 aM => mk_hold_L11 p1 p2 p3 p4 K fu a5 a6 aM) K (x5) (x6) M8 else mk_hold_J46 p1 p2 p3 p4 (fun a5 a6 aM => mk_hold_L11 p1 p2 p3 p4 K fu a5 a6 aM) K (x5) (x6) M2) else K (M))
def mk_hold (p1 : Int32) (p2 : Int32) (p3 : Int32) (p4 : Int32) (M : Mem) : Option Mem := (mk_begin (p1) M).bind fun M1 => mk_hold_L11 p1 p2 p3 p4 (fun M10 => some M10) FU ((0 : Int32)) ((0 : Int32)) M1
set_option maxHeartbeats 4000000 in
set_option maxRecDepth 20000 in
theorem w_mk_hold_J46 {z : ZT} {l : Launch} {g : GG} {b : Nat} (C : Cx z l g (wC b) (rmd 7) cX1_hold 7 RX1 none) (p1 : Int32) (p2 : Int32) (p3 : Int32) (p4 : Int32)  {rec : Int32 → Int32 → Mem → Option Mem} (hrec : ∀ (u5 : Int32) (u6 : Int32) (M : Mem) , XG z g (wC b) 7 (ZQ z g (wC b) finV) 0 0 11 [some (.ref ((wC b).2.2.2 + 89)), none, some (.int p2), some (.int p3), some (.int p4), some (.int u5), some (.int u6)] [] M (rec u5 u6 M)) {K : Mem → Option Mem} (hK : ∀ (M : Mem) , XG z g (wC b) 7 (ZQ z g (wC b) finV) 0 0 79 [none, none, none, none, none, none, none] [] M (K  M)) (x5 : Int32) (x6 : Int32) (M : Mem) : XG z g (wC b) 7 (ZQ z g (wC b) finV) 0 0 46 [some (.ref ((wC b).2.2.2 + 89)), none, some (.int p2), some (.int p3), some (.int p4), some (.int x5), some (.int x6)] [] M (mk_hold_J46 p1 p2 p3 p4 rec K x5 x6 M) := by
  rw [mk_hold_J46]
  refine x_iload C dX1_hold_46 (x := x6) rfl ?_
  refine x_iload C dX1_hold_48 (x := x5) rfl ?_
  refine x_icmplt C dX1_hold_50 (tgt := 73) (by decide) (fun _h => ?_) (fun _h => ?_)
  · refine x_iinc C dX1_hold_73 (v := (x6 + (1 : Int32))) rfl rfl (L' := [some (.ref ((wC b).2.2.2 + 89)), none, some (.int p2), some (.int p3), some (.int p4), some (.int x5), some (.int (x6 + (1 : Int32)))]) rfl ?_
    refine x_goto C dX1_hold_76 (tgt := 11) (by decide) ?_
    exact x_wk (L' := [some (.ref ((wC b).2.2.2 + 89)), none, some (.int p2), some (.int p3), some (.int p4), some (.int x5), some (.int (x6 + (1 : Int32)))]) (And.intro rfl (And.intro rfl (And.intro rfl (And.intro rfl (And.intro rfl (And.intro rfl trivial)))))) (hrec (x5) ((x6 + (1 : Int32))) (M))
  · refine x_aloadn C dX1_hold_53 rfl ?_
    refine x_getI C fl_X1_28 cl_1 nC89 kC89 fC89_7 dX1_hold_54 ?_
    refine x_ifle C dX1_hold_57 (tgt := 73) (by decide) (fun _h => ?_) (fun _h => ?_)
    · refine x_iinc C dX1_hold_73 (v := (x6 + (1 : Int32))) rfl rfl (L' := [some (.ref ((wC b).2.2.2 + 89)), none, some (.int p2), some (.int p3), some (.int p4), some (.int x5), some (.int (x6 + (1 : Int32)))]) rfl ?_
      refine x_goto C dX1_hold_76 (tgt := 11) (by decide) ?_
      exact x_wk (L' := [some (.ref ((wC b).2.2.2 + 89)), none, some (.int p2), some (.int p3), some (.int p4), some (.int x5), some (.int (x6 + (1 : Int32)))]) (And.intro rfl (And.intro rfl (And.intro rfl (And.intro rfl (And.intro rfl (And.intro rfl trivial)))))) (hrec (x5) ((x6 + (1 : Int32))) (M))
    · refine x_iload C dX1_hold_60 (x := x6) rfl ?_
      refine x_aloadn C dX1_hold_62 rfl ?_
      refine x_iload C dX1_hold_63 (x := x6) rfl ?_
      refine x_iload C dX1_hold_65 (x := p4) rfl ?_
      refine x_Vm (st := [.int x6]) C (c_mk_minutesAway  (x6) (p4) M) lk_X1_70 nC89 kC89 ⟨_, _, rfl⟩ rfl rfl (Nat.le_of_ble_eq_true rfl) (rmok_d (by decide) (by decide)) ⟨Nat.zero_le _, Nat.zero_le _⟩ dX1_hold_67 (fun v5 M4 => ?_)
      refine x_iadd C dX1_hold_70 ?_
      refine x_istore C dX1_hold_71 (L' := [some (.ref ((wC b).2.2.2 + 89)), none, some (.int p2), some (.int p3), some (.int p4), some (.int (x6 + v5)), some (.int x6)]) (ltb rfl) rfl ?_
      refine x_iinc C dX1_hold_73 (v := (x6 + (1 : Int32))) rfl rfl (L' := [some (.ref ((wC b).2.2.2 + 89)), none, some (.int p2), some (.int p3), some (.int p4), some (.int (x6 + v5)), some (.int (x6 + (1 : Int32)))]) rfl ?_
      refine x_goto C dX1_hold_76 (tgt := 11) (by decide) ?_
      exact x_wk (L' := [some (.ref ((wC b).2.2.2 + 89)), none, some (.int p2), some (.int p3), some (.int p4), some (.int (x6 + v5)), some (.int (x6 + (1 : Int32)))]) (And.intro rfl (And.intro rfl (And.intro rfl (And.intro rfl (And.intro rfl (And.intro rfl trivial)))))) (hrec ((x6 + v5)) ((x6 + (1 : Int32))) (M4))
set_option maxHeartbeats 4000000 in
set_option maxRecDepth 20000 in
theorem w_mk_hold_L11 {z : ZT} {l : Launch} {g : GG} {b : Nat} (C : Cx z l g (wC b) (rmd 7) cX1_hold 7 RX1 none) (p1 : Int32) (p2 : Int32) (p3 : Int32) (p4 : Int32) {K : Mem → Option Mem} (hK : ∀ (M : Mem) , XG z g (wC b) 7 (ZQ z g (wC b) finV) 0 0 79 [none, none, none, none, none, none, none] [] M (K M)) : ∀ (fu : Nat) (x5 : Int32) (x6 : Int32) (M : Mem), XG z g (wC b) 7 (ZQ z g (wC b) finV) 0 0 11 [some (.ref ((wC b).2.2.2 + 89)), none, some (.int p2), some (.int p3), some (.int p4), some (.int x5), some (.int x6)] [] M (mk_hold_L11 p1 p2 p3 p4 K fu x5 x6 M) := by
  intro fu
  induction fu with
  | zero => intro x5 x6 M; exact x_none
  | succ fu ih =>
    intro x5 x6 M
    rw [mk_hold_L11]
    refine x_iload C dX1_hold_11 (x := x6) rfl ?_
    refine x_iloadn C dX1_hold_13 (x := p2) rfl ?_
    refine x_icmpge C dX1_hold_14 (tgt := 79) (by decide) (fun _h => ?_) (fun _h => ?_)
    · exact x_wk (L' := [none, none, none, none, none, none, none]) (trivial) (hK (M))
    · refine x_aloadn C dX1_hold_17 rfl ?_
      refine x_Vm (st := []) C (c_mk_draw   M) lk_X1_62 nC89 kC89 ⟨_, _, rfl⟩ rfl rfl (Nat.le_of_ble_eq_true rfl) (rmok_d (by decide) (by decide)) ⟨Nat.zero_le _, Nat.zero_le _⟩ dX1_hold_18 (fun v3 M2 => ?_)
      refine x_bipush C dX1_hold_21 (v := (100 : Int32)) (by decide) ?_
      refine x_irem C dX1_hold_23 (by decide) ?_
      refine x_iloadn C dX1_hold_24 (x := p3) rfl ?_
      refine x_icmpge C dX1_hold_25 (tgt := 46) (by decide) (fun _h => ?_) (fun _h => ?_)
      · exact x_wk (L' := [some (.ref ((wC b).2.2.2 + 89)), none, some (.int p2), some (.int p3), some (.int p4), some (.int x5), some (.int x6)]) (And.intro rfl (And.intro rfl (And.intro rfl (And.intro rfl (And.intro rfl (And.intro rfl trivial)))))) (w_mk_hold_J46 C p1 p2 p3 p4  ih hK (x5) (x6)  M2)
      · refine x_aloadn C dX1_hold_28 rfl ?_
        refine x_iload C dX1_hold_29 (x := x6) rfl ?_
        refine x_bipush C dX1_hold_31 (v := (10 : Int32)) (by decide) ?_
        refine x_aloadn C dX1_hold_33 rfl ?_
        refine x_Vm (st := [.int (10 : Int32), .int x6, .ref ((wC b).2.2.2 + 89)]) C (c_mk_draw   M2) lk_X1_62 nC89 kC89 ⟨_, _, rfl⟩ rfl rfl (Nat.le_of_ble_eq_true rfl) (rmok_d (by decide) (by decide)) ⟨Nat.zero_le _, Nat.zero_le _⟩ dX1_hold_34 (fun v7 M6 => ?_)
        refine x_bipush C dX1_hold_37 (v := (9 : Int32)) (by decide) ?_
        refine x_irem C dX1_hold_39 (by decide) ?_
        refine x_iconst C dX1_hold_40 (v := (1 : Int32)) (by decide) ?_
        refine x_iadd C dX1_hold_41 ?_
        refine x_imul C dX1_hold_42 ?_
        refine x_Vv (st := []) C (c_mk_comeOne  (x6) (((10 : Int32) * ((irem v7 (9 : Int32)) + (1 : Int32)))) M6) lk_X1_66 nC89 kC89 ⟨_, _, rfl⟩ rfl rfl (Nat.le_of_ble_eq_true rfl) (rmok_d (by decide) (by decide)) ⟨Nat.zero_le _, Nat.zero_le _⟩ dX1_hold_43 (fun M8 => ?_)
        exact x_wk (L' := [some (.ref ((wC b).2.2.2 + 89)), none, some (.int p2), some (.int p3), some (.int p4), some (.int x5), some (.int x6)]) (And.intro rfl (And.intro rfl (And.intro rfl (And.intro rfl (And.intro rfl (And.intro rfl trivial)))))) (w_mk_hold_J46 C p1 p2 p3 p4  ih hK (x5) (x6)  M8)
set_option maxHeartbeats 4000000 in
set_option maxRecDepth 20000 in
theorem c_mk_hold {l : Launch} {g : GG} {b : Nat} (p1 : Int32) (p2 : Int32) (p3 : Int32) (p4 : Int32) (M : Mem) : CT l g (wC b) (rmd 7) yX1_hold cX1_hold 7 none [.ref ((wC b).2.2.2 + 89), .int p1, .int p2, .int p3, .int p4] M finV (mk_hold p1 p2 p3 p4 M) := by
  refine CT.of rfl (Nat.le_of_ble_eq_true rfl) (catc rfl (catc rfl (catc rfl (catc rfl (catc rfl cat0))))) (fun z C => ?_)
  have C : Cx z l g (wC b) (rmd 7) cX1_hold 7 RX1 none := C
  refine x_wk (L' := [some (.ref ((wC b).2.2.2 + 89)), some (.int p1), some (.int p2), some (.int p3), some (.int p4), none, none]) (And.intro rfl (And.intro rfl (And.intro rfl (And.intro rfl (And.intro rfl trivial))))) ?_
  rw [mk_hold]
  refine x_aloadn C dX1_hold_0 rfl ?_
  refine x_iloadn C dX1_hold_1 (x := p1) rfl ?_
  refine x_Vv (st := []) C (c_mk_begin  (p1) M) lk_X1_58 nC89 kC89 ⟨_, _, rfl⟩ rfl rfl (Nat.le_of_ble_eq_true rfl) (rmok_d (by decide) (by decide)) ⟨Nat.zero_le _, Nat.zero_le _⟩ dX1_hold_2 (fun M1 => ?_)
  refine x_iconst C dX1_hold_5 (v := (0 : Int32)) (by decide) ?_
  refine x_istore C dX1_hold_6 (L' := [some (.ref ((wC b).2.2.2 + 89)), some (.int p1), some (.int p2), some (.int p3), some (.int p4), some (.int (0 : Int32)), none]) (ltb rfl) rfl ?_
  refine x_iconst C dX1_hold_8 (v := (0 : Int32)) (by decide) ?_
  refine x_istore C dX1_hold_9 (L' := [some (.ref ((wC b).2.2.2 + 89)), some (.int p1), some (.int p2), some (.int p3), some (.int p4), some (.int (0 : Int32)), some (.int (0 : Int32))]) (ltb rfl) rfl ?_
  refine x_wk (L' := [some (.ref ((wC b).2.2.2 + 89)), none, some (.int p2), some (.int p3), some (.int p4), some (.int (0 : Int32)), some (.int (0 : Int32))]) (And.intro rfl (And.intro rfl (And.intro rfl (And.intro rfl (And.intro rfl (And.intro rfl trivial)))))) (w_mk_hold_L11 C p1 p2 p3 p4   (fun M10 => ?_) FU ((0 : Int32)) ((0 : Int32)) M1)
  exact x_vret C dX1_hold_79 rfl
def mk_answer (p1 : Int32) (M : Mem) : Option Int32 := (if p1 = (0 : Int32) then some ((M 89 9)) else (if p1 = (1 : Int32) then some ((M 89 7)) else (if p1 = (2 : Int32) then some ((M 89 10)) else (if p1 = (3 : Int32) then some ((M 89 11)) else (if p1 = (4 : Int32) then some ((M 89 12)) else some ((M 89 13)))))))
set_option maxHeartbeats 4000000 in
set_option maxRecDepth 20000 in
theorem c_mk_answer {l : Launch} {g : GG} {b : Nat} (p1 : Int32) (M : Mem) : CT l g (wC b) (rmd 1) yX1_answer cX1_answer 2 (some .int) [.ref ((wC b).2.2.2 + 89), .int p1] M (finI M) (mk_answer p1 M) := by
  refine CT.of rfl (Nat.le_of_ble_eq_true rfl) (catc rfl (catc rfl cat0)) (fun z C => ?_)
  have C : Cx z l g (wC b) (rmd 1) cX1_answer 2 RX1 (some .int) := C
  refine x_wk (L' := [some (.ref ((wC b).2.2.2 + 89)), some (.int p1)]) (And.intro rfl (And.intro rfl trivial)) ?_
  rw [mk_answer]
  refine x_iloadn C dX1_answer_0 (x := p1) rfl ?_
  refine x_ite (fun h9 => ?_) (fun h_0 => ?_)
  · refine x_tsIn C dX1_answer_1 h9 (by decide) (by decide) rfl (tgt := 36) (by decide) ?_
    refine x_aloadn C dX1_answer_36 rfl ?_
    refine x_getI C fl_X1_35 cl_1 nC89 kC89 fC89_9 dX1_answer_37 ?_
    exact x_iret C dX1_answer_40 rfl
  · refine x_ite (fun h9 => ?_) (fun h_1 => ?_)
    · refine x_tsIn C dX1_answer_1 h9 (by decide) (by decide) rfl (tgt := 41) (by decide) ?_
      refine x_aloadn C dX1_answer_41 rfl ?_
      refine x_getI C fl_X1_28 cl_1 nC89 kC89 fC89_7 dX1_answer_42 ?_
      exact x_iret C dX1_answer_45 rfl
    · refine x_ite (fun h9 => ?_) (fun h_2 => ?_)
      · refine x_tsIn C dX1_answer_1 h9 (by decide) (by decide) rfl (tgt := 46) (by decide) ?_
        refine x_aloadn C dX1_answer_46 rfl ?_
        refine x_getI C fl_X1_38 cl_1 nC89 kC89 fC89_10 dX1_answer_47 ?_
        exact x_iret C dX1_answer_50 rfl
      · refine x_ite (fun h9 => ?_) (fun h_3 => ?_)
        · refine x_tsIn C dX1_answer_1 h9 (by decide) (by decide) rfl (tgt := 51) (by decide) ?_
          refine x_aloadn C dX1_answer_51 rfl ?_
          refine x_getI C fl_X1_41 cl_1 nC89 kC89 fC89_11 dX1_answer_52 ?_
          exact x_iret C dX1_answer_55 rfl
        · refine x_ite (fun h9 => ?_) (fun h_4 => ?_)
          · refine x_tsIn C dX1_answer_1 h9 (by decide) (by decide) rfl (tgt := 56) (by decide) ?_
            refine x_aloadn C dX1_answer_56 rfl ?_
            refine x_getI C fl_X1_44 cl_1 nC89 kC89 fC89_12 dX1_answer_57 ?_
            exact x_iret C dX1_answer_60 rfl
          · refine x_tsOut C dX1_answer_1 (ts_out (fun j h1 h2 => ?_)) (tgt := 61) (by decide) ?_
            · have hj : j = 0 ∨ j = 1 ∨ j = 2 ∨ j = 3 ∨ j = 4 := by omega
              rcases hj with rfl | rfl | rfl | rfl | rfl
              · exact h_0
              · exact h_1
              · exact h_2
              · exact h_3
              · exact h_4
            · refine x_aloadn C dX1_answer_61 rfl ?_
              refine x_getI C fl_X1_47 cl_1 nC89 kC89 fC89_13 dX1_answer_62 ?_
              exact x_iret C dX1_answer_65 rfl
