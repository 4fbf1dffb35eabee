def pl_reach (p1 : Int32) (p2 : Int32) (M : Mem) : Option Mem := chk (inb p1 2048) ((if p2 < (M 83 p1.toNatClampNeg) then chk (inb p1 2048) ((if (M 83 p1.toNatClampNeg) = (2147483647 : Int32) then (if (M 82 5) < (2048 : Int32) then chk (inb (M 82 5) 2048) (lt1 (wr M 84 (M 82 5).toNatClampNeg p1) fun M3 => lt1 (wr M3 82 5 ((M3 82 5) + (1 : Int32))) fun M4 => chk (inb p1 2048) (lt1 (wr M4 83 p1.toNatClampNeg p2) fun M5 => some M5)) else chk (inb p1 2048) (lt1 (wr M 83 p1.toNatClampNeg p2) fun M2 => some M2)) else chk (inb p1 2048) (lt1 (wr M 83 p1.toNatClampNeg p2) fun M1 => some M1))) else some M))
set_option maxHeartbeats 4000000 in
set_option maxRecDepth 20000 in
theorem c_pl_reach {l : Launch} {g : GG} {b : Nat} (p1 : Int32) (p2 : Int32) (M : Mem) : CT l g (wC b) (rmd 1) yX4_reach cX4_reach 3 none [.ref ((wC b).2.2.2 + 82), .int p1, .int p2] M finV (pl_reach p1 p2 M) := by
  refine CT.of rfl (Nat.le_of_ble_eq_true rfl) (catc rfl (catc rfl (catc rfl cat0))) (fun z C => ?_)
  have C : Cx z l g (wC b) (rmd 1) cX4_reach 3 RX4 none := C
  refine x_wk (L' := [some (.ref ((wC b).2.2.2 + 82)), some (.int p1), some (.int p2)]) (And.intro rfl (And.intro rfl (And.intro rfl trivial))) ?_
  rw [pl_reach]
  refine x_iloadn C dX4_reach_0 (x := p2) rfl ?_
  refine x_aloadn C dX4_reach_1 rfl ?_
  refine x_getR C fl_X4_13 cl_4 (83) nC82 kC82 fC82_1 dX4_reach_2 ?_
  refine x_iloadn C dX4_reach_5 (x := p1) rfl ?_
  refine x_iald C nC83 kC83 dX4_reach_6 ?_
  refine x_icmplt C dX4_reach_7 (tgt := 11) (by decide) (fun _h => ?_) (fun _h => ?_)
  · refine x_aloadn C dX4_reach_11 rfl ?_
    refine x_getR C fl_X4_13 cl_4 (83) nC82 kC82 fC82_1 dX4_reach_12 ?_
    refine x_iloadn C dX4_reach_15 (x := p1) rfl ?_
    refine x_iald C nC83 kC83 dX4_reach_16 ?_
    refine x_ldc C dX4_reach_17 (v := (2147483647 : Int32)) cn_X4_51 ?_
    refine x_icmpne C dX4_reach_19 (tgt := 52) (by decide) (fun _h => ?_) (fun _h => ?_)
    · refine x_aloadn C dX4_reach_52 rfl ?_
      refine x_getR C fl_X4_13 cl_4 (83) nC82 kC82 fC82_1 dX4_reach_53 ?_
      refine x_iloadn C dX4_reach_56 (x := p1) rfl ?_
      refine x_iloadn C dX4_reach_57 (x := p2) rfl ?_
      refine x_iast C nC83 kC83 dX4_reach_58 ?_
      refine x_ltM (fun M1 => ?_)
      exact x_vret C dX4_reach_59 rfl
    · refine x_aloadn C dX4_reach_22 rfl ?_
      refine x_getI C fl_X4_27 cl_4 nC82 kC82 fC82_5 dX4_reach_23 ?_
      refine x_sipush C dX4_reach_26 (v := (2048 : Int32)) (by decide) ?_
      refine x_icmpge C dX4_reach_29 (tgt := 52) (by decide) (fun _h => ?_) (fun _h => ?_)
      · refine x_aloadn C dX4_reach_52 rfl ?_
        refine x_getR C fl_X4_13 cl_4 (83) nC82 kC82 fC82_1 dX4_reach_53 ?_
        refine x_iloadn C dX4_reach_56 (x := p1) rfl ?_
        refine x_iloadn C dX4_reach_57 (x := p2) rfl ?_
        refine x_iast C nC83 kC83 dX4_reach_58 ?_
        refine x_ltM (fun M2 => ?_)
        exact x_vret C dX4_reach_59 rfl
      · refine x_aloadn C dX4_reach_32 rfl ?_
        refine x_getR C fl_X4_17 cl_4 (84) nC82 kC82 fC82_2 dX4_reach_33 ?_
        refine x_aloadn C dX4_reach_36 rfl ?_
        refine x_getI C fl_X4_27 cl_4 nC82 kC82 fC82_5 dX4_reach_37 ?_
        refine x_iloadn C dX4_reach_40 (x := p1) rfl ?_
        refine x_iast C nC84 kC84 dX4_reach_41 ?_
        refine x_ltM (fun M3 => ?_)
        refine x_aloadn C dX4_reach_42 rfl ?_
        refine x_dup C dX4_reach_43 rfl ?_
        refine x_getI C fl_X4_27 cl_4 nC82 kC82 fC82_5 dX4_reach_44 ?_
        refine x_iconst C dX4_reach_47 (v := (1 : Int32)) (by decide) ?_
        refine x_iadd C dX4_reach_48 ?_
        refine x_putI C fl_X4_27 cl_4 fint_4_5 nC82 kC82 fC82_5 dX4_reach_49 ?_
        refine x_ltM (fun M4 => ?_)
        refine x_aloadn C dX4_reach_52 rfl ?_
        refine x_getR C fl_X4_13 cl_4 (83) nC82 kC82 fC82_1 dX4_reach_53 ?_
        refine x_iloadn C dX4_reach_56 (x := p1) rfl ?_
        refine x_iloadn C dX4_reach_57 (x := p2) rfl ?_
        refine x_iast C nC83 kC83 dX4_reach_58 ?_
        refine x_ltM (fun M5 => ?_)
        exact x_vret C dX4_reach_59 rfl
  · exact x_vret C dX4_reach_10 rfl
def pl_takeCheapest_L4 (M : Mem) (K : Int32 → Option (Int32 × Mem)) : Nat → Int32 → Int32 → Option (Int32 × Mem)
  | 0, _, _ => none
  | fu + 1, x1, x2 => (if x2 < (M 82 5) then chk (inb x2 2048) (chk (inb (M 84 x2.toNatClampNeg) 2048) (chk (inb x1 2048) (chk (inb (M 84 x1.toNatClampNeg) 2048) ((if (M 83 (M 84 x2.toNatClampNeg).toNatClampNeg) < (M 83 (M 84 x1.toNatClampNeg).toNatClampNeg) then pl_takeCheapest_L4 M K fu (x2) ((x2 + (1 : Int32))) else pl_takeCheapest_L4 M K fu (x1) ((x2 + (1 : Int32)))))))) else K (x1))
def pl_takeCheapest (M : Mem) : Option (Int32 × Mem) := pl_takeCheapest_L4 M (fun v1_0 => chk (inb v1_0 2048) (lt1 (wr M 82 5 ((M 82 5) - (1 : Int32))) fun M2 => chk (inb (M2 82 5) 2048) (chk (inb v1_0 2048) (lt1 (wr M2 84 v1_0.toNatClampNeg (M2 84 (M2 82 5).toNatClampNeg)) fun M3 => some ((M 84 v1_0.toNatClampNeg), M3))))) FU ((0 : Int32)) ((1 : Int32))
set_option maxHeartbeats 4000000 in
set_option maxRecDepth 20000 in
theorem w_pl_takeCheapest_L4 {z : ZT} {l : Launch} {g : GG} {b : Nat} (C : Cx z l g (wC b) (rmd 1) cX4_takeCheapest 3 RX4 (some .int)) (M : Mem) {K : Int32 → Option (Int32 × Mem)} (hK : ∀ (x1 : Int32) , XG z g (wC b) 3 (ZQ z g (wC b) finM) 0 0 45 [some (.ref ((wC b).2.2.2 + 82)), some (.int x1), none] [] M (K x1)) : ∀ (fu : Nat) (x1 : Int32) (x2 : Int32), XG z g (wC b) 3 (ZQ z g (wC b) finM) 0 0 4 [some (.ref ((wC b).2.2.2 + 82)), some (.int x1), some (.int x2)] [] M (pl_takeCheapest_L4 M K fu x1 x2) := by
  intro fu
  induction fu with
  | zero => intro x1 x2; exact x_none
  | succ fu ih =>
    intro x1 x2
    rw [pl_takeCheapest_L4]
    refine x_iloadn C dX4_takeCheapest_4 (x := x2) rfl ?_
    refine x_aloadn C dX4_takeCheapest_5 rfl ?_
    refine x_getI C fl_X4_27 cl_4 nC82 kC82 fC82_5 dX4_takeCheapest_6 ?_
    refine x_icmpge C dX4_takeCheapest_9 (tgt := 45) (by decide) (fun _h => ?_) (fun _h => ?_)
    · exact x_wk (L' := [some (.ref ((wC b).2.2.2 + 82)), some (.int x1), none]) (And.intro rfl (And.intro rfl trivial)) (hK (x1))
    · refine x_aloadn C dX4_takeCheapest_12 rfl ?_
      refine x_getR C fl_X4_13 cl_4 (83) nC82 kC82 fC82_1 dX4_takeCheapest_13 ?_
      refine x_aloadn C dX4_takeCheapest_16 rfl ?_
      refine x_getR C fl_X4_17 cl_4 (84) nC82 kC82 fC82_2 dX4_takeCheapest_17 ?_
      refine x_iloadn C dX4_takeCheapest_20 (x := x2) rfl ?_
      refine x_iald C nC84 kC84 dX4_takeCheapest_21 ?_
      refine x_iald C nC83 kC83 dX4_takeCheapest_22 ?_
      refine x_aloadn C dX4_takeCheapest_23 rfl ?_
      refine x_getR C fl_X4_13 cl_4 (83) nC82 kC82 fC82_1 dX4_takeCheapest_24 ?_
      refine x_aloadn C dX4_takeCheapest_27 rfl ?_
      refine x_getR C fl_X4_17 cl_4 (84) nC82 kC82 fC82_2 dX4_takeCheapest_28 ?_
      refine x_iloadn C dX4_takeCheapest_31 (x := x1) rfl ?_
      refine x_iald C nC84 kC84 dX4_takeCheapest_32 ?_
      refine x_iald C nC83 kC83 dX4_takeCheapest_33 ?_
      refine x_icmpge C dX4_takeCheapest_34 (tgt := 39) (by decide) (fun _h => ?_) (fun _h => ?_)
      · refine x_iinc C dX4_takeCheapest_39 (v := (x2 + (1 : Int32))) rfl rfl (L' := [some (.ref ((wC b).2.2.2 + 82)), some (.int x1), some (.int (x2 + (1 : Int32)))]) rfl ?_
        refine x_goto C dX4_takeCheapest_42 (tgt := 4) (by decide) ?_
        exact x_wk (L' := [some (.ref ((wC b).2.2.2 + 82)), some (.int x1), some (.int (x2 + (1 : Int32)))]) (And.intro rfl (And.intro rfl (And.intro rfl trivial))) (ih (x1) ((x2 + (1 : Int32))))
      · refine x_iloadn C dX4_takeCheapest_37 (x := x2) rfl ?_
        refine x_istoren C dX4_takeCheapest_38 (L' := [some (.ref ((wC b).2.2.2 + 82)), some (.int x2), some (.int x2)]) (ltb rfl) rfl ?_
        refine x_iinc C dX4_takeCheapest_39 (v := (x2 + (1 : Int32))) rfl rfl (L' := [some (.ref ((wC b).2.2.2 + 82)), some (.int x2), some (.int (x2 + (1 : Int32)))]) rfl ?_
        refine x_goto C dX4_takeCheapest_42 (tgt := 4) (by decide) ?_
        exact x_wk (L' := [some (.ref ((wC b).2.2.2 + 82)), some (.int x2), some (.int (x2 + (1 : Int32)))]) (And.intro rfl (And.intro rfl (And.intro rfl trivial))) (ih (x2) ((x2 + (1 : Int32))))
set_option maxHeartbeats 4000000 in
set_option maxRecDepth 20000 in
theorem c_pl_takeCheapest {l : Launch} {g : GG} {b : Nat} (M : Mem) : CT l g (wC b) (rmd 1) yX4_takeCheapest cX4_takeCheapest 3 (some .int) [.ref ((wC b).2.2.2 + 82)] M finM (pl_takeCheapest  M) := by
  refine CT.of rfl (Nat.le_of_ble_eq_true rfl) (catc rfl cat0) (fun z C => ?_)
  have C : Cx z l g (wC b) (rmd 1) cX4_takeCheapest 3 RX4 (some .int) := C
  refine x_wk (L' := [some (.ref ((wC b).2.2.2 + 82)), none, none]) (And.intro rfl trivial) ?_
  rw [pl_takeCheapest]
  refine x_iconst C dX4_takeCheapest_0 (v := (0 : Int32)) (by decide) ?_
  refine x_istoren C dX4_takeCheapest_1 (L' := [some (.ref ((wC b).2.2.2 + 82)), some (.int (0 : Int32)), none]) (ltb rfl) rfl ?_
  refine x_iconst C dX4_takeCheapest_2 (v := (1 : Int32)) (by decide) ?_
  refine x_istoren C dX4_takeCheapest_3 (L' := [some (.ref ((wC b).2.2.2 + 82)), some (.int (0 : Int32)), some (.int (1 : Int32))]) (ltb rfl) rfl ?_
  refine x_wk (L' := [some (.ref ((wC b).2.2.2 + 82)), some (.int (0 : Int32)), some (.int (1 : Int32))]) (And.intro rfl (And.intro rfl (And.intro rfl trivial))) (w_pl_takeCheapest_L4 C   M (fun v1_0 => ?_) FU ((0 : Int32)) ((1 : Int32)) )
  refine x_aloadn C dX4_takeCheapest_45 rfl ?_
  refine x_getR C fl_X4_17 cl_4 (84) nC82 kC82 fC82_2 dX4_takeCheapest_46 ?_
  refine x_iloadn C dX4_takeCheapest_49 (x := v1_0) rfl ?_
  refine x_iald C nC84 kC84 dX4_takeCheapest_50 ?_
  refine x_istoren C dX4_takeCheapest_51 (L' := [some (.ref ((wC b).2.2.2 + 82)), some (.int v1_0), some (.int (M 84 v1_0.toNatClampNeg))]) (ltb rfl) rfl ?_
  refine x_aloadn C dX4_takeCheapest_52 rfl ?_
  refine x_dup C dX4_takeCheapest_53 rfl ?_
  refine x_getI C fl_X4_27 cl_4 nC82 kC82 fC82_5 dX4_takeCheapest_54 ?_
  refine x_iconst C dX4_takeCheapest_57 (v := (1 : Int32)) (by decide) ?_
  refine x_isub C dX4_takeCheapest_58 ?_
  refine x_putI C fl_X4_27 cl_4 fint_4_5 nC82 kC82 fC82_5 dX4_takeCheapest_59 ?_
  refine x_ltM (fun M2 => ?_)
  refine x_aloadn C dX4_takeCheapest_62 rfl ?_
  refine x_getR C fl_X4_17 cl_4 (84) nC82 kC82 fC82_2 dX4_takeCheapest_63 ?_
  refine x_iloadn C dX4_takeCheapest_66 (x := v1_0) rfl ?_
  refine x_aloadn C dX4_takeCheapest_67 rfl ?_
  refine x_getR C fl_X4_17 cl_4 (84) nC82 kC82 fC82_2 dX4_takeCheapest_68 ?_
  refine x_aloadn C dX4_takeCheapest_71 rfl ?_
  refine x_getI C fl_X4_27 cl_4 nC82 kC82 fC82_5 dX4_takeCheapest_72 ?_
  refine x_iald C nC84 kC84 dX4_takeCheapest_75 ?_
  refine x_iast C nC84 kC84 dX4_takeCheapest_76 ?_
  refine x_ltM (fun M3 => ?_)
  refine x_iloadn C dX4_takeCheapest_77 (x := (M 84 v1_0.toNatClampNeg)) rfl ?_
  exact x_iret C dX4_takeCheapest_78 rfl
def pl_isGoal (p1 : Int32) (M : Mem) : Option Int32 := (if ((p1 >>> ((1 : Int32) &&& 31)) &&& (M 82 8)) = (M 82 8) then some ((1 : Int32)) else some ((0 : Int32)))
set_option maxHeartbeats 4000000 in
set_option maxRecDepth 20000 in
theorem c_pl_isGoal {l : Launch} {g : GG} {b : Nat} (p1 : Int32) (M : Mem) : CT l g (wC b) (rmd 1) yX4_isGoal cX4_isGoal 2 (some .boolean) [.ref ((wC b).2.2.2 + 82), .int p1] M (finI M) (pl_isGoal p1 M) := by
  refine CT.of rfl (Nat.le_of_ble_eq_true rfl) (catc rfl (catc rfl cat0)) (fun z C => ?_)
  have C : Cx z l g (wC b) (rmd 1) cX4_isGoal 2 RX4 (some .boolean) := C
  refine x_wk (L' := [some (.ref ((wC b).2.2.2 + 82)), some (.int p1)]) (And.intro rfl (And.intro rfl trivial)) ?_
  rw [pl_isGoal]
  refine x_iloadn C dX4_isGoal_0 (x := p1) rfl ?_
  refine x_iconst C dX4_isGoal_1 (v := (1 : Int32)) (by decide) ?_
  refine x_ishr C dX4_isGoal_2 ?_
  refine x_aloadn C dX4_isGoal_3 rfl ?_
  refine x_getI C fl_X4_37 cl_4 nC82 kC82 fC82_8 dX4_isGoal_4 ?_
  refine x_iand C dX4_isGoal_7 ?_
  refine x_aloadn C dX4_isGoal_8 rfl ?_
  refine x_getI C fl_X4_37 cl_4 nC82 kC82 fC82_8 dX4_isGoal_9 ?_
  refine x_icmpne C dX4_isGoal_12 (tgt := 19) (by decide) (fun _h => ?_) (fun _h => ?_)
  · refine x_iconst C dX4_isGoal_19 (v := (0 : Int32)) (by decide) ?_
    exact x_zret C dX4_isGoal_20 rfl rfl
  · refine x_iconst C dX4_isGoal_15 (v := (1 : Int32)) (by decide) ?_
    refine x_goto C dX4_isGoal_16 (tgt := 20) (by decide) ?_
    exact x_zret C dX4_isGoal_20 rfl rfl
def pl_price (p1 : Int32) (M : Mem) : Option Int32 := (if (M 82 9) = 0 then some ((((4096 : Int32) * p1) + (1 : Int32))) else some (((262144 : Int32) + p1)))
set_option maxHeartbeats 4000000 in
set_option maxRecDepth 20000 in
theorem c_pl_price {l : Launch} {g : GG} {b : Nat} (p1 : Int32) (M : Mem) : CT l g (wC b) (rmd 1) yX4_price cX4_price 2 (some .int) [.ref ((wC b).2.2.2 + 82), .int p1] M (finI M) (pl_price p1 M) := by
  refine CT.of rfl (Nat.le_of_ble_eq_true rfl) (catc rfl (catc rfl cat0)) (fun z C => ?_)
  have C : Cx z l g (wC b) (rmd 1) cX4_price 2 RX4 (some .int) := C
  refine x_wk (L' := [some (.ref ((wC b).2.2.2 + 82)), some (.int p1)]) (And.intro rfl (And.intro rfl trivial)) ?_
  rw [pl_price]
  refine x_aloadn C dX4_price_0 rfl ?_
  refine x_getI C fl_X4_40 cl_4 nC82 kC82 fC82_9 dX4_price_1 ?_
  refine x_ifeq C dX4_price_4 (tgt := 14) (by decide) (fun _h => ?_) (fun _h => ?_)
  · refine x_sipush C dX4_price_14 (v := (4096 : Int32)) (by decide) ?_
    refine x_iloadn C dX4_price_17 (x := p1) rfl ?_
    refine x_imul C dX4_price_18 ?_
    refine x_iconst C dX4_price_19 (v := (1 : Int32)) (by decide) ?_
    refine x_iadd C dX4_price_20 ?_
    exact x_iret C dX4_price_21 rfl
  · refine x_ldc C dX4_price_7 (v := (262144 : Int32)) cn_X4_74 ?_
    refine x_iloadn C dX4_price_9 (x := p1) rfl ?_
    refine x_iadd C dX4_price_10 ?_
    refine x_goto C dX4_price_11 (tgt := 21) (by decide) ?_
    exact x_iret C dX4_price_21 rfl
def pl_spread_L10 (p1 : Int32) (K : Mem → Option Mem) : Nat → Int32 → Mem → Option Mem
  | 0, _, _ => none
  | fu + 1, x2, M => (if x2 < (M 75 10) then chk (inb x2 1034) ((mv_behind (p1) ((M 80 x2.toNatClampNeg)) M).bind fun v2 => chk (inb p1 2048) (chk (inb x2 1034) ((pl_price ((M 81 x2.toNatClampNeg)) M).bind fun v3 => (pl_reach (v2) (((M 83 p1.toNatClampNeg) + v3)) M).bind fun M4 => pl_spread_L10 p1 K fu ((x2 + (1 : Int32))) (M4)))) else K (M))
def pl_spread (p1 : Int32) (M : Mem) : Option Mem := (mv_list (p1) M).bind fun M1 => pl_spread_L10 p1 (fun M6 => some M6) FU ((0 : Int32)) M1
set_option maxHeartbeats 4000000 in
set_option maxRecDepth 20000 in
theorem w_pl_spread_L10 {z : ZT} {l : Launch} {g : GG} {b : Nat} (C : Cx z l g (wC b) (rmd 5) cX4_spread 4 RX4 none) (p1 : Int32) {K : Mem → Option Mem} (hK : ∀ (M : Mem) , XG z g (wC b) 4 (ZQ z g (wC b) finV) 0 0 70 [none, none, none, none] [] M (K M)) : ∀ (fu : Nat) (x2 : Int32) (M : Mem), XG z g (wC b) 4 (ZQ z g (wC b) finV) 0 0 10 [some (.ref ((wC b).2.2.2 + 82)), some (.int p1), some (.int x2), none] [] M (pl_spread_L10 p1 K fu x2 M) := by
  intro fu
  induction fu with
  | zero => intro x2 M; exact x_none
  | succ fu ih =>
    intro x2 M
    rw [pl_spread_L10]
    refine x_iloadn C dX4_spread_10 (x := x2) rfl ?_
    refine x_aloadn C dX4_spread_11 rfl ?_
    refine x_getR C fl_X4_47 cl_4 (75) nC82 kC82 fC82_0 dX4_spread_12 ?_
    refine x_getI C fl_X4_104 cl_2 nC75 kC75 fC75_10 dX4_spread_15 ?_
    refine x_icmpge C dX4_spread_18 (tgt := 70) (by decide) (fun _h => ?_) (fun _h => ?_)
    · exact x_wk (L' := [none, none, none, none]) (trivial) (hK (M))
    · refine x_aloadn C dX4_spread_21 rfl ?_
      refine x_getR C fl_X4_47 cl_4 (75) nC82 kC82 fC82_0 dX4_spread_22 ?_
      refine x_iloadn C dX4_spread_25 (x := p1) rfl ?_
      refine x_aloadn C dX4_spread_26 rfl ?_
      refine x_getR C fl_X4_47 cl_4 (75) nC82 kC82 fC82_0 dX4_spread_27 ?_
      refine x_getR C fl_X4_107 cl_2 (80) nC75 kC75 fC75_8 dX4_spread_30 ?_
      refine x_iloadn C dX4_spread_33 (x := x2) rfl ?_
      refine x_iald C nC80 kC80 dX4_spread_34 ?_
      refine x_Vi (st := []) C (c_mv_behind  (p1) ((M 80 x2.toNatClampNeg)) M) lk_X4_82 nC75 kC75 ⟨_, _, rfl⟩ rfl rfl (Nat.le_of_ble_eq_true rfl) (rmok_d (by decide) (by decide)) ⟨Nat.zero_le _, Nat.zero_le _⟩ dX4_spread_35 (fun v2 => ?_)
      refine x_istoren C dX4_spread_38 (L' := [some (.ref ((wC b).2.2.2 + 82)), some (.int p1), some (.int x2), some (.int v2)]) (ltb rfl) rfl ?_
      refine x_aloadn C dX4_spread_39 rfl ?_
      refine x_iloadn C dX4_spread_40 (x := v2) rfl ?_
      refine x_aloadn C dX4_spread_41 rfl ?_
      refine x_getR C fl_X4_13 cl_4 (83) nC82 kC82 fC82_1 dX4_spread_42 ?_
      refine x_iloadn C dX4_spread_45 (x := p1) rfl ?_
      refine x_iald C nC83 kC83 dX4_spread_46 ?_
      refine x_aloadn C dX4_spread_47 rfl ?_
      refine x_aloadn C dX4_spread_48 rfl ?_
      refine x_getR C fl_X4_47 cl_4 (75) nC82 kC82 fC82_0 dX4_spread_49 ?_
      refine x_getR C fl_X4_110 cl_2 (81) nC75 kC75 fC75_9 dX4_spread_52 ?_
      refine x_iloadn C dX4_spread_55 (x := x2) rfl ?_
      refine x_iald C nC81 kC81 dX4_spread_56 ?_
      refine x_Vi (st := [.int (M 83 p1.toNatClampNeg), .int v2, .ref ((wC b).2.2.2 + 82)]) C (c_pl_price  ((M 81 x2.toNatClampNeg)) M) lk_X4_113 nC82 kC82 ⟨_, _, rfl⟩ rfl rfl (Nat.le_of_ble_eq_true rfl) (rmok_d (by decide) (by decide)) ⟨Nat.zero_le _, Nat.zero_le _⟩ dX4_spread_57 (fun v3 => ?_)
      refine x_iadd C dX4_spread_60 ?_
      refine x_Vv (st := []) C (c_pl_reach  (v2) (((M 83 p1.toNatClampNeg) + v3)) M) lk_X4_58 nC82 kC82 ⟨_, _, rfl⟩ rfl rfl (Nat.le_of_ble_eq_true rfl) (rmok_d (by decide) (by decide)) ⟨Nat.zero_le _, Nat.zero_le _⟩ dX4_spread_61 (fun M4 => ?_)
      refine x_iinc C dX4_spread_64 (v := (x2 + (1 : Int32))) rfl rfl (L' := [some (.ref ((wC b).2.2.2 + 82)), some (.int p1), some (.int (x2 + (1 : Int32))), some (.int v2)]) rfl ?_
      refine x_goto C dX4_spread_67 (tgt := 10) (by decide) ?_
      exact x_wk (L' := [some (.ref ((wC b).2.2.2 + 82)), some (.int p1), some (.int (x2 + (1 : Int32))), none]) (And.intro rfl (And.intro rfl (And.intro rfl trivial))) (ih ((x2 + (1 : Int32))) (M4))
set_option maxHeartbeats 4000000 in
set_option maxRecDepth 20000 in
theorem c_pl_spread {l : Launch} {g : GG} {b : Nat} (p1 : Int32) (M : Mem) : CT l g (wC b) (rmd 5) yX4_spread cX4_spread 4 none [.ref ((wC b).2.2.2 + 82), .int p1] M finV (pl_spread p1 M) := by
  refine CT.of rfl (Nat.le_of_ble_eq_true rfl) (catc rfl (catc rfl cat0)) (fun z C => ?_)
  have C : Cx z l g (wC b) (rmd 5) cX4_spread 4 RX4 none := C
  refine x_wk (L' := [some (.ref ((wC b).2.2.2 + 82)), some (.int p1), none, none]) (And.intro rfl (And.intro rfl trivial)) ?_
  rw [pl_spread]
  refine x_aloadn C dX4_spread_0 rfl ?_
  refine x_getR C fl_X4_47 cl_4 (75) nC82 kC82 fC82_0 dX4_spread_1 ?_
  refine x_iloadn C dX4_spread_4 (x := p1) rfl ?_
  refine x_Vv (st := []) C (c_mv_list  (p1) M) lk_X4_101 nC75 kC75 ⟨_, _, rfl⟩ rfl rfl (Nat.le_of_ble_eq_true rfl) (rmok_d (by decide) (by decide)) ⟨Nat.zero_le _, Nat.zero_le _⟩ dX4_spread_5 (fun M1 => ?_)
  refine x_iconst C dX4_spread_8 (v := (0 : Int32)) (by decide) ?_
  refine x_istoren C dX4_spread_9 (L' := [some (.ref ((wC b).2.2.2 + 82)), some (.int p1), some (.int (0 : Int32)), none]) (ltb rfl) rfl ?_
  refine x_wk (L' := [some (.ref ((wC b).2.2.2 + 82)), some (.int p1), some (.int (0 : Int32)), none]) (And.intro rfl (And.intro rfl (And.intro rfl trivial))) (w_pl_spread_L10 C p1   (fun M6 => ?_) FU ((0 : Int32)) M1)
  exact x_vret C dX4_spread_70 rfl
def pl_search_J97 (p1 : Int32) (p2 : Int32) (p3 : Int32) (rec : Int32 → Mem → Option (Int32 × Mem)) (K : Mem → Option (Int32 × Mem)) (x4 : Int32) (x5 : Int32) (M : Mem) : Option (Int32 × Mem) := chk (inb (M 82 6) 2048) (lt1 (wr M 85 (M 82 6).toNatClampNeg x5) fun M11 => lt1 (wr M11 82 6 ((M11 82 6) + (1 : Int32))) fun M12 => (pl_isGoal (x5) M12).bind fun v13 => (if v13 = 0 then (pl_spread (x5) M12).bind fun M14 => rec ((x4 + (1 : Int32))) (M14) else chk (inb x5 2048) (lt1 (wr M12 82 10 (M12 83 x5.toNatClampNeg)) fun M15 => rec ((x4 + (1 : Int32))) (M15))))
def pl_search_L51 (p1 : Int32) (p2 : Int32) (p3 : Int32) (K : Mem → Option (Int32 × Mem)) : Nat → Int32 → Mem → Option (Int32 × Mem)
  | 0, _, _ => none
  | fu + 1, x4, M => (if x4 < (2048 : Int32) then (if 0 < (M 82 5) then bnd2 (pl_takeCheapest M) fun v10 M9 => (if (M9 82 10) = (-1 : Int32) then pl_search_J97 p1 p2 p3 (fun a4 aM => pl_search_L51 p1 p2 p3 K fu a4 aM) K (x4) (v10) M9 else chk (inb v10 2048) ((if (M9 82 10) < (M9 83 v10.toNatClampNeg) then K (M9) else pl_search_J97 p1 p2 p3 (fun a4 aM => pl_search_L51 p1 p2 p3 K fu a4 aM) K (x4) (v10) M9))) else K (M)) else K (M))
def pl_search (p1 : Int32) (p2 : Int32) (p3 : Int32) (M : Mem) : Option (Int32 × Mem) := lt1 (wr M 82 7 p1) fun M1 => lt1 (wr M1 82 8 p2) fun M2 => chk (isB p3) (lt1 (wr M2 82 9 p3) fun M3 => lt1 (wr M3 82 10 (-1 : Int32)) fun M4 => lt1 (wr M4 82 5 (0 : Int32)) fun M5 => lt1 (wr M5 82 6 (0 : Int32)) fun M6 => (ja_fill 83 2048 ((2147483647 : Int32)) M6).bind fun M7 => (pl_reach ((M7 82 7)) ((0 : Int32)) M7).bind fun M8 => pl_search_L51 p1 p2 p3 (fun M17 => (if (M17 82 10) = (-1 : Int32) then some ((0 : Int32), M17) else some ((1 : Int32), M17))) FU ((0 : Int32)) M8)
set_option maxHeartbeats 4000000 in
set_option maxRecDepth 20000 in
theorem w_pl_search_J97 {z : ZT} {l : Launch} {g : GG} {b : Nat} (C : Cx z l g (wC b) (rmd 6) cX4_search 6 RX4 (some .boolean)) (p1 : Int32) (p2 : Int32) (p3 : Int32)  {rec : Int32 → Mem → Option (Int32 × Mem)} (hrec : ∀ (u4 : Int32) (M : Mem) , XG z g (wC b) 6 (ZQ z g (wC b) finM) 0 0 51 [some (.ref ((wC b).2.2.2 + 82)), none, none, none, some (.int u4), none] [] M (rec u4 M)) {K : Mem → Option (Int32 × Mem)} (hK : ∀ (M : Mem) , XG z g (wC b) 6 (ZQ z g (wC b) finM) 0 0 153 [some (.ref ((wC b).2.2.2 + 82)), none, none, none, none, none] [] M (K  M)) (x4 : Int32) (x5 : Int32) (M : Mem) : XG z g (wC b) 6 (ZQ z g (wC b) finM) 0 0 97 [some (.ref ((wC b).2.2.2 + 82)), none, none, none, some (.int x4), some (.int x5)] [] M (pl_search_J97 p1 p2 p3 rec K x4 x5 M) := by
  rw [pl_search_J97]
  refine x_aloadn C dX4_search_97 rfl ?_
  refine x_getR C fl_X4_20 cl_4 (85) nC82 kC82 fC82_3 dX4_search_98 ?_
  refine x_aloadn C dX4_search_101 rfl ?_
  refine x_getI C fl_X4_31 cl_4 nC82 kC82 fC82_6 dX4_search_102 ?_
  refine x_iload C dX4_search_105 (x := x5) rfl ?_
  refine x_iast C nC85 kC85 dX4_search_107 ?_
  refine x_ltM (fun M11 => ?_)
  refine x_aloadn C dX4_search_108 rfl ?_
  refine x_dup C dX4_search_109 rfl ?_
  refine x_getI C fl_X4_31 cl_4 nC82 kC82 fC82_6 dX4_search_110 ?_
  refine x_iconst C dX4_search_113 (v := (1 : Int32)) (by decide) ?_
  refine x_iadd C dX4_search_114 ?_
  refine x_putI C fl_X4_31 cl_4 fint_4_6 nC82 kC82 fC82_6 dX4_search_115 ?_
  refine x_ltM (fun M12 => ?_)
  refine x_aloadn C dX4_search_118 rfl ?_
  refine x_iload C dX4_search_119 (x := x5) rfl ?_
  refine x_Vi (st := []) C (c_pl_isGoal  (x5) M12) lk_X4_66 nC82 kC82 ⟨_, _, rfl⟩ rfl rfl (Nat.le_of_ble_eq_true rfl) (rmok_d (by decide) (by decide)) ⟨Nat.zero_le _, Nat.zero_le _⟩ dX4_search_121 (fun v13 => ?_)
  refine x_ifeq C dX4_search_124 (tgt := 141) (by decide) (fun _h => ?_) (fun _h => ?_)
  · refine x_aloadn C dX4_search_141 rfl ?_
    refine x_iload C dX4_search_142 (x := x5) rfl ?_
    refine x_Vv (st := []) C (c_pl_spread  (x5) M12) lk_X4_70 nC82 kC82 ⟨_, _, rfl⟩ rfl rfl (Nat.le_of_ble_eq_true rfl) (rmok_d (by decide) (by decide)) ⟨Nat.zero_le _, Nat.zero_le _⟩ dX4_search_144 (fun M14 => ?_)
    refine x_iinc C dX4_search_147 (v := (x4 + (1 : Int32))) rfl rfl (L' := [some (.ref ((wC b).2.2.2 + 82)), none, none, none, some (.int (x4 + (1 : Int32))), some (.int x5)]) rfl ?_
    refine x_goto C dX4_search_150 (tgt := 51) (by decide) ?_
    exact x_wk (L' := [some (.ref ((wC b).2.2.2 + 82)), none, none, none, some (.int (x4 + (1 : Int32))), none]) (And.intro rfl (And.intro rfl trivial)) (hrec ((x4 + (1 : Int32))) (M14))
  · refine x_aloadn C dX4_search_127 rfl ?_
    refine x_aloadn C dX4_search_128 rfl ?_
    refine x_getR C fl_X4_13 cl_4 (83) nC82 kC82 fC82_1 dX4_search_129 ?_
    refine x_iload C dX4_search_132 (x := x5) rfl ?_
    refine x_iald C nC83 kC83 dX4_search_134 ?_
    refine x_putI C fl_X4_44 cl_4 fint_4_10 nC82 kC82 fC82_10 dX4_search_135 ?_
    refine x_ltM (fun M15 => ?_)
    refine x_goto C dX4_search_138 (tgt := 147) (by decide) ?_
    refine x_iinc C dX4_search_147 (v := (x4 + (1 : Int32))) rfl rfl (L' := [some (.ref ((wC b).2.2.2 + 82)), none, none, none, some (.int (x4 + (1 : Int32))), some (.int x5)]) rfl ?_
    refine x_goto C dX4_search_150 (tgt := 51) (by decide) ?_
    exact x_wk (L' := [some (.ref ((wC b).2.2.2 + 82)), none, none, none, some (.int (x4 + (1 : Int32))), none]) (And.intro rfl (And.intro rfl trivial)) (hrec ((x4 + (1 : Int32))) (M15))
set_option maxHeartbeats 4000000 in
set_option maxRecDepth 20000 in
theorem w_pl_search_L51 {z : ZT} {l : Launch} {g : GG} {b : Nat} (C : Cx z l g (wC b) (rmd 6) cX4_search 6 RX4 (some .boolean)) (p1 : Int32) (p2 : Int32) (p3 : Int32) {K : Mem → Option (Int32 × Mem)} (hK : ∀ (M : Mem) , XG z g (wC b) 6 (ZQ z g (wC b) finM) 0 0 153 [some (.ref ((wC b).2.2.2 + 82)), none, none, none, none, none] [] M (K M)) : ∀ (fu : Nat) (x4 : Int32) (M : Mem), XG z g (wC b) 6 (ZQ z g (wC b) finM) 0 0 51 [some (.ref ((wC b).2.2.2 + 82)), none, none, none, some (.int x4), none] [] M (pl_search_L51 p1 p2 p3 K fu x4 M) := by
  intro fu
  induction fu with
  | zero => intro x4 M; exact x_none
  | succ fu ih =>
    intro x4 M
    rw [pl_search_L51]
    refine x_iload C dX4_search_51 (x := x4) rfl ?_
    refine x_sipush C dX4_search_53 (v := (2048 : Int32)) (by decide) ?_
    refine x_icmpge C dX4_search_56 (tgt := 153) (by decide) (fun _h => ?_) (fun _h => ?_)
    · exact x_wk (L' := [some (.ref ((wC b).2.2.2 + 82)), none, none, none, none, none]) (And.intro rfl trivial) (hK (M))
    · refine x_aloadn C dX4_search_59 rfl ?_
      refine x_getI C fl_X4_27 cl_4 nC82 kC82 fC82_5 dX4_search_60 ?_
      refine x_ifle C dX4_search_63 (tgt := 153) (by decide) (fun _h => ?_) (fun _h => ?_)
      · exact x_wk (L' := [some (.ref ((wC b).2.2.2 + 82)), none, none, none, none, none]) (And.intro rfl trivial) (hK (M))
      · refine x_aloadn C dX4_search_66 rfl ?_
        refine x_Vm (st := []) C (c_pl_takeCheapest   M) lk_X4_62 nC82 kC82 ⟨_, _, rfl⟩ rfl rfl (Nat.le_of_ble_eq_true rfl) (rmok_d (by decide) (by decide)) ⟨Nat.zero_le _, Nat.zero_le _⟩ dX4_search_67 (fun v10 M9 => ?_)
        refine x_istore C dX4_search_70 (L' := [some (.ref ((wC b).2.2.2 + 82)), none, none, none, some (.int x4), some (.int v10)]) (ltb rfl) rfl ?_
        refine x_aloadn C dX4_search_72 rfl ?_
        refine x_getI C fl_X4_44 cl_4 nC82 kC82 fC82_10 dX4_search_73 ?_
        refine x_iconst C dX4_search_76 (v := (-1 : Int32)) (by decide) ?_
        refine x_icmpeq C dX4_search_77 (tgt := 97) (by decide) (fun _h => ?_) (fun _h => ?_)
        · exact x_wk (L' := [some (.ref ((wC b).2.2.2 + 82)), none, none, none, some (.int x4), some (.int v10)]) (And.intro rfl (And.intro rfl (And.intro rfl trivial))) (w_pl_search_J97 C p1 p2 p3  ih hK (x4) (v10)  M9)
        · refine x_aloadn C dX4_search_80 rfl ?_
          refine x_getR C fl_X4_13 cl_4 (83) nC82 kC82 fC82_1 dX4_search_81 ?_
          refine x_iload C dX4_search_84 (x := v10) rfl ?_
          refine x_iald C nC83 kC83 dX4_search_86 ?_
          refine x_aloadn C dX4_search_87 rfl ?_
          refine x_getI C fl_X4_44 cl_4 nC82 kC82 fC82_10 dX4_search_88 ?_
          refine x_icmple C dX4_search_91 (tgt := 97) (by decide) (fun _h => ?_) (fun _h => ?_)
          · exact x_wk (L' := [some (.ref ((wC b).2.2.2 + 82)), none, none, none, some (.int x4), some (.int v10)]) (And.intro rfl (And.intro rfl (And.intro rfl trivial))) (w_pl_search_J97 C p1 p2 p3  ih hK (x4) (v10)  M9)
          · refine x_goto C dX4_search_94 (tgt := 153) (by decide) ?_
            exact x_wk (L' := [some (.ref ((wC b).2.2.2 + 82)), none, none, none, none, none]) (And.intro rfl trivial) (hK (M9))
set_option maxHeartbeats 4000000 in
set_option maxRecDepth 20000 in
theorem c_pl_search {l : Launch} {g : GG} {b : Nat} (p1 : Int32) (p2 : Int32) (p3 : Int32) (M : Mem) : CT l g (wC b) (rmd 6) yX4_search cX4_search 6 (some .boolean) [.ref ((wC b).2.2.2 + 82), .int p1, .int p2, .int p3] M finM (pl_search p1 p2 p3 M) := by
  refine CT.of rfl (Nat.le_of_ble_eq_true rfl) (catc rfl (catc rfl (catc rfl (catc rfl cat0)))) (fun z C => ?_)
  have C : Cx z l g (wC b) (rmd 6) cX4_search 6 RX4 (some .boolean) := C
  refine x_wk (L' := [some (.ref ((wC b).2.2.2 + 82)), some (.int p1), some (.int p2), some (.int p3), none, none]) (And.intro rfl (And.intro rfl (And.intro rfl (And.intro rfl trivial)))) ?_
  rw [pl_search]
  refine x_aloadn C dX4_search_0 rfl ?_
  refine x_iloadn C dX4_search_1 (x := p1) rfl ?_
  refine x_putI C fl_X4_34 cl_4 fint_4_7 nC82 kC82 fC82_7 dX4_search_2 ?_
  refine x_ltM (fun M1 => ?_)
  refine x_aloadn C dX4_search_5 rfl ?_
  refine x_iloadn C dX4_search_6 (x := p2) rfl ?_
  refine x_putI C fl_X4_37 cl_4 fint_4_8 nC82 kC82 fC82_8 dX4_search_7 ?_
  refine x_ltM (fun M2 => ?_)
  refine x_aloadn C dX4_search_10 rfl ?_
  refine x_iloadn C dX4_search_11 (x := p3) rfl ?_
  refine x_putBc C fl_X4_40 cl_4 fboo_4_9 nC82 kC82 fC82_9 dX4_search_12 ?_
  refine x_ltM (fun M3 => ?_)
  refine x_aloadn C dX4_search_15 rfl ?_
  refine x_iconst C dX4_search_16 (v := (-1 : Int32)) (by decide) ?_
  refine x_putI C fl_X4_44 cl_4 fint_4_10 nC82 kC82 fC82_10 dX4_search_17 ?_
  refine x_ltM (fun M4 => ?_)
  refine x_aloadn C dX4_search_20 rfl ?_
  refine x_iconst C dX4_search_21 (v := (0 : Int32)) (by decide) ?_
  refine x_putI C fl_X4_27 cl_4 fint_4_5 nC82 kC82 fC82_5 dX4_search_22 ?_
  refine x_ltM (fun M5 => ?_)
  refine x_aloadn C dX4_search_25 rfl ?_
  refine x_iconst C dX4_search_26 (v := (0 : Int32)) (by decide) ?_
  refine x_putI C fl_X4_31 cl_4 fint_4_6 nC82 kC82 fC82_6 dX4_search_27 ?_
  refine x_ltM (fun M6 => ?_)
  refine x_aloadn C dX4_search_30 rfl ?_
  refine x_getR C fl_X4_13 cl_4 (83) nC82 kC82 fC82_1 dX4_search_31 ?_
  refine x_ldc C dX4_search_34 (v := (2147483647 : Int32)) cn_X4_51 ?_
  refine x_Sv (st := []) C (c_ja_fill nC83 kC83 (by decide) ((2147483647 : Int32)) M6) lk_X4_52 rfl rfl (Nat.le_of_ble_eq_true rfl) (rmok_d (by decide) (by decide)) ⟨Nat.zero_le _, Nat.zero_le _⟩ dX4_search_36 (fun M7 => ?_)
  refine x_aloadn C dX4_search_39 rfl ?_
  refine x_aloadn C dX4_search_40 rfl ?_
  refine x_getI C fl_X4_34 cl_4 nC82 kC82 fC82_7 dX4_search_41 ?_
  refine x_iconst C dX4_search_44 (v := (0 : Int32)) (by decide) ?_
  refine x_Vv (st := []) C (c_pl_reach  ((M7 82 7)) ((0 : Int32)) M7) lk_X4_58 nC82 kC82 ⟨_, _, rfl⟩ rfl rfl (Nat.le_of_ble_eq_true rfl) (rmok_d (by decide) (by decide)) ⟨Nat.zero_le _, Nat.zero_le _⟩ dX4_search_45 (fun M8 => ?_)
  refine x_iconst C dX4_search_48 (v := (0 : Int32)) (by decide) ?_
  refine x_istore C dX4_search_49 (L' := [some (.ref ((wC b).2.2.2 + 82)), some (.int p1), some (.int p2), some (.int p3), some (.int (0 : Int32)), none]) (ltb rfl) rfl ?_
  refine x_wk (L' := [some (.ref ((wC b).2.2.2 + 82)), none, none, none, some (.int (0 : Int32)), none]) (And.intro rfl (And.intro rfl trivial)) (w_pl_search_L51 C p1 p2 p3   (fun M17 => ?_) FU ((0 : Int32)) M8)
  refine x_aloadn C dX4_search_153 rfl ?_
  refine x_getI C fl_X4_44 cl_4 nC82 kC82 fC82_10 dX4_search_154 ?_
  refine x_iconst C dX4_search_157 (v := (-1 : Int32)) (by decide) ?_
  refine x_icmpeq C dX4_search_158 (tgt := 165) (by decide) (fun _h => ?_) (fun _h => ?_)
  · refine x_iconst C dX4_search_165 (v := (0 : Int32)) (by decide) ?_
    exact x_zret C dX4_search_166 rfl rfl
  · refine x_iconst C dX4_search_161 (v := (1 : Int32)) (by decide) ?_
    refine x_goto C dX4_search_162 (tgt := 166) (by decide) ?_
    exact x_zret C dX4_search_166 rfl rfl
def pl_minutes (M : Mem) : Option Int32 := (if (M 82 9) = 0 then some (((M 82 10) / (4096 : Int32))) else some ((irem (M 82 10) (262144 : Int32))))
set_option maxHeartbeats 4000000 in
set_option maxRecDepth 20000 in
theorem c_pl_minutes {l : Launch} {g : GG} {b : Nat} (M : Mem) : CT l g (wC b) (rmd 1) yX4_minutes cX4_minutes 1 (some .int) [.ref ((wC b).2.2.2 + 82)] M (finI M) (pl_minutes  M) := by
  refine CT.of rfl (Nat.le_of_ble_eq_true rfl) (catc rfl cat0) (fun z C => ?_)
  have C : Cx z l g (wC b) (rmd 1) cX4_minutes 1 RX4 (some .int) := C
  refine x_wk (L' := [some (.ref ((wC b).2.2.2 + 82))]) (And.intro rfl trivial) ?_
  rw [pl_minutes]
  refine x_aloadn C dX4_minutes_0 rfl ?_
  refine x_getI C fl_X4_40 cl_4 nC82 kC82 fC82_9 dX4_minutes_1 ?_
  refine x_ifeq C dX4_minutes_4 (tgt := 17) (by decide) (fun _h => ?_) (fun _h => ?_)
  · refine x_aloadn C dX4_minutes_17 rfl ?_
    refine x_getI C fl_X4_44 cl_4 nC82 kC82 fC82_10 dX4_minutes_18 ?_
    refine x_sipush C dX4_minutes_21 (v := (4096 : Int32)) (by decide) ?_
    refine x_idiv C dX4_minutes_24 (by decide) ?_
    exact x_iret C dX4_minutes_25 rfl
  · refine x_aloadn C dX4_minutes_7 rfl ?_
    refine x_getI C fl_X4_44 cl_4 nC82 kC82 fC82_10 dX4_minutes_8 ?_
    refine x_ldc C dX4_minutes_11 (v := (262144 : Int32)) cn_X4_74 ?_
    refine x_irem C dX4_minutes_13 (by decide) ?_
    refine x_goto C dX4_minutes_14 (tgt := 25) (by decide) ?_
    exact x_iret C dX4_minutes_25 rfl
def pl_length (M : Mem) : Option Int32 := (if (M 82 9) = 0 then some ((irem (M 82 10) (4096 : Int32))) else some (((M 82 10) / (262144 : Int32))))
set_option maxHeartbeats 4000000 in
set_option maxRecDepth 20000 in
theorem c_pl_length {l : Launch} {g : GG} {b : Nat} (M : Mem) : CT l g (wC b) (rmd 1) yX4_length cX4_length 1 (some .int) [.ref ((wC b).2.2.2 + 82)] M (finI M) (pl_length  M) := by
  refine CT.of rfl (Nat.le_of_ble_eq_true rfl) (catc rfl cat0) (fun z C => ?_)
  have C : Cx z l g (wC b) (rmd 1) cX4_length 1 RX4 (some .int) := C
  refine x_wk (L' := [some (.ref ((wC b).2.2.2 + 82))]) (And.intro rfl trivial) ?_
  rw [pl_length]
  refine x_aloadn C dX4_length_0 rfl ?_
  refine x_getI C fl_X4_40 cl_4 nC82 kC82 fC82_9 dX4_length_1 ?_
  refine x_ifeq C dX4_length_4 (tgt := 17) (by decide) (fun _h => ?_) (fun _h => ?_)
  · refine x_aloadn C dX4_length_17 rfl ?_
    refine x_getI C fl_X4_44 cl_4 nC82 kC82 fC82_10 dX4_length_18 ?_
    refine x_sipush C dX4_length_21 (v := (4096 : Int32)) (by decide) ?_
    refine x_irem C dX4_length_24 (by decide) ?_
    exact x_iret C dX4_length_25 rfl
  · refine x_aloadn C dX4_length_7 rfl ?_
    refine x_getI C fl_X4_44 cl_4 nC82 kC82 fC82_10 dX4_length_8 ?_
    refine x_ldc C dX4_length_11 (v := (262144 : Int32)) cn_X4_74 ?_
    refine x_idiv C dX4_length_13 (by decide) ?_
    refine x_goto C dX4_length_14 (tgt := 25) (by decide) ?_
    exact x_iret C dX4_length_25 rfl
def pl_firstOnPlan_L10 (p1 : Int32) (M : Mem) (K : Option (Int32 × Mem)) : Nat → Int32 → Option (Int32 × Mem)
  | 0, _ => none
  | fu + 1, x2 => (if x2 < (M 75 10) then chk (inb x2 1034) ((mv_behind (p1) ((M 80 x2.toNatClampNeg)) M).bind fun v2 => chk (inb v2 2048) ((if (M 86 v2.toNatClampNeg) = 0 then pl_firstOnPlan_L10 p1 M K fu ((x2 + (1 : Int32))) else chk (inb v2 2048) (chk (inb p1 2048) (chk (inb x2 1034) ((pl_price ((M 81 x2.toNatClampNeg)) M).bind fun v3 => (if (M 83 v2.toNatClampNeg) = ((M 83 p1.toNatClampNeg) + v3) then chk (inb x2 1034) (some ((M 80 x2.toNatClampNeg), M)) else pl_firstOnPlan_L10 p1 M K fu ((x2 + (1 : Int32)))))))))) else K)
def pl_firstOnPlan (p1 : Int32) (M : Mem) : Option (Int32 × Mem) := (mv_list (p1) M).bind fun M1 => pl_firstOnPlan_L10 p1 M1 (some ((-1 : Int32), M1)) FU ((0 : Int32))
set_option maxHeartbeats 4000000 in
set_option maxRecDepth 20000 in
theorem w_pl_firstOnPlan_L10 {z : ZT} {l : Launch} {g : GG} {b : Nat} (C : Cx z l g (wC b) (rmd 5) cX4_firstOnPlan 4 RX4 (some .int)) (p1 : Int32) (M : Mem) {K : Option (Int32 × Mem)} (hK : XG z g (wC b) 4 (ZQ z g (wC b) finM) 0 0 93 [none, none, none, none] [] M (K )) : ∀ (fu : Nat) (x2 : Int32), XG z g (wC b) 4 (ZQ z g (wC b) finM) 0 0 10 [some (.ref ((wC b).2.2.2 + 82)), some (.int p1), some (.int x2), none] [] M (pl_firstOnPlan_L10 p1 M K fu x2) := by
  intro fu
  induction fu with
  | zero => intro x2; exact x_none
  | succ fu ih =>
    intro x2
    rw [pl_firstOnPlan_L10]
    refine x_iloadn C dX4_firstOnPlan_10 (x := x2) rfl ?_
    refine x_aloadn C dX4_firstOnPlan_11 rfl ?_
    refine x_getR C fl_X4_47 cl_4 (75) nC82 kC82 fC82_0 dX4_firstOnPlan_12 ?_
    refine x_getI C fl_X4_104 cl_2 nC75 kC75 fC75_10 dX4_firstOnPlan_15 ?_
    refine x_icmpge C dX4_firstOnPlan_18 (tgt := 93) (by decide) (fun _h => ?_) (fun _h => ?_)
    · exact x_wk (L' := [none, none, none, none]) (trivial) (hK )
    · refine x_aloadn C dX4_firstOnPlan_21 rfl ?_
      refine x_getR C fl_X4_47 cl_4 (75) nC82 kC82 fC82_0 dX4_firstOnPlan_22 ?_
      refine x_iloadn C dX4_firstOnPlan_25 (x := p1) rfl ?_
      refine x_aloadn C dX4_firstOnPlan_26 rfl ?_
      refine x_getR C fl_X4_47 cl_4 (75) nC82 kC82 fC82_0 dX4_firstOnPlan_27 ?_
      refine x_getR C fl_X4_107 cl_2 (80) nC75 kC75 fC75_8 dX4_firstOnPlan_30 ?_
      refine x_iloadn C dX4_firstOnPlan_33 (x := x2) rfl ?_
      refine x_iald C nC80 kC80 dX4_firstOnPlan_34 ?_
      refine x_Vi (st := []) C (c_mv_behind  (p1) ((M 80 x2.toNatClampNeg)) M) lk_X4_82 nC75 kC75 ⟨_, _, rfl⟩ rfl rfl (Nat.le_of_ble_eq_true rfl) (rmok_d (by decide) (by decide)) ⟨Nat.zero_le _, Nat.zero_le _⟩ dX4_firstOnPlan_35 (fun v2 => ?_)
      refine x_istoren C dX4_firstOnPlan_38 (L' := [some (.ref ((wC b).2.2.2 + 82)), some (.int p1), some (.int x2), some (.int v2)]) (ltb rfl) rfl ?_
      refine x_aloadn C dX4_firstOnPlan_39 rfl ?_
      refine x_getR C fl_X4_23 cl_4 (86) nC82 kC82 fC82_4 dX4_firstOnPlan_40 ?_
      refine x_iloadn C dX4_firstOnPlan_43 (x := v2) rfl ?_
      refine x_zald C nC86 kC86 dX4_firstOnPlan_44 ?_
      refine x_ifeq C dX4_firstOnPlan_45 (tgt := 87) (by decide) (fun _h => ?_) (fun _h => ?_)
      · refine x_iinc C dX4_firstOnPlan_87 (v := (x2 + (1 : Int32))) rfl rfl (L' := [some (.ref ((wC b).2.2.2 + 82)), some (.int p1), some (.int (x2 + (1 : Int32))), some (.int v2)]) rfl ?_
        refine x_goto C dX4_firstOnPlan_90 (tgt := 10) (by decide) ?_
        exact x_wk (L' := [some (.ref ((wC b).2.2.2 + 82)), some (.int p1), some (.int (x2 + (1 : Int32))), none]) (And.intro rfl (And.intro rfl (And.intro rfl trivial))) (ih ((x2 + (1 : Int32))))
      · refine x_aloadn C dX4_firstOnPlan_48 rfl ?_
        refine x_getR C fl_X4_13 cl_4 (83) nC82 kC82 fC82_1 dX4_firstOnPlan_49 ?_
        refine x_iloadn C dX4_firstOnPlan_52 (x := v2) rfl ?_
        refine x_iald C nC83 kC83 dX4_firstOnPlan_53 ?_
        refine x_aloadn C dX4_firstOnPlan_54 rfl ?_
        refine x_getR C fl_X4_13 cl_4 (83) nC82 kC82 fC82_1 dX4_firstOnPlan_55 ?_
        refine x_iloadn C dX4_firstOnPlan_58 (x := p1) rfl ?_
        refine x_iald C nC83 kC83 dX4_firstOnPlan_59 ?_
        refine x_aloadn C dX4_firstOnPlan_60 rfl ?_
        refine x_aloadn C dX4_firstOnPlan_61 rfl ?_
        refine x_getR C fl_X4_47 cl_4 (75) nC82 kC82 fC82_0 dX4_firstOnPlan_62 ?_
        refine x_getR C fl_X4_110 cl_2 (81) nC75 kC75 fC75_9 dX4_firstOnPlan_65 ?_
        refine x_iloadn C dX4_firstOnPlan_68 (x := x2) rfl ?_
        refine x_iald C nC81 kC81 dX4_firstOnPlan_69 ?_
        refine x_Vi (st := [.int (M 83 p1.toNatClampNeg), .int (M 83 v2.toNatClampNeg)]) C (c_pl_price  ((M 81 x2.toNatClampNeg)) M) lk_X4_113 nC82 kC82 ⟨_, _, rfl⟩ rfl rfl (Nat.le_of_ble_eq_true rfl) (rmok_d (by decide) (by decide)) ⟨Nat.zero_le _, Nat.zero_le _⟩ dX4_firstOnPlan_70 (fun v3 => ?_)
        refine x_iadd C dX4_firstOnPlan_73 ?_
        refine x_icmpne C dX4_firstOnPlan_74 (tgt := 87) (by decide) (fun _h => ?_) (fun _h => ?_)
        · refine x_iinc C dX4_firstOnPlan_87 (v := (x2 + (1 : Int32))) rfl rfl (L' := [some (.ref ((wC b).2.2.2 + 82)), some (.int p1), some (.int (x2 + (1 : Int32))), some (.int v2)]) rfl ?_
          refine x_goto C dX4_firstOnPlan_90 (tgt := 10) (by decide) ?_
          exact x_wk (L' := [some (.ref ((wC b).2.2.2 + 82)), some (.int p1), some (.int (x2 + (1 : Int32))), none]) (And.intro rfl (And.intro rfl (And.intro rfl trivial))) (ih ((x2 + (1 : Int32))))
        · refine x_aloadn C dX4_firstOnPlan_77 rfl ?_
          refine x_getR C fl_X4_47 cl_4 (75) nC82 kC82 fC82_0 dX4_firstOnPlan_78 ?_
          refine x_getR C fl_X4_107 cl_2 (80) nC75 kC75 fC75_8 dX4_firstOnPlan_81 ?_
          refine x_iloadn C dX4_firstOnPlan_84 (x := x2) rfl ?_
          refine x_iald C nC80 kC80 dX4_firstOnPlan_85 ?_
          exact x_iret C dX4_firstOnPlan_86 rfl
set_option maxHeartbeats 4000000 in
set_option maxRecDepth 20000 in
theorem c_pl_firstOnPlan {l : Launch} {g : GG} {b : Nat} (p1 : Int32) (M : Mem) : CT l g (wC b) (rmd 5) yX4_firstOnPlan cX4_firstOnPlan 4 (some .int) [.ref ((wC b).2.2.2 + 82), .int p1] M finM (pl_firstOnPlan p1 M) := by
  refine CT.of rfl (Nat.le_of_ble_eq_true rfl) (catc rfl (catc rfl cat0)) (fun z C => ?_)
  have C : Cx z l g (wC b) (rmd 5) cX4_firstOnPlan 4 RX4 (some .int) := C
  refine x_wk (L' := [some (.ref ((wC b).2.2.2 + 82)), some (.int p1), none, none]) (And.intro rfl (And.intro rfl trivial)) ?_
  rw [pl_firstOnPlan]
  refine x_aloadn C dX4_firstOnPlan_0 rfl ?_
  refine x_getR C fl_X4_47 cl_4 (75) nC82 kC82 fC82_0 dX4_firstOnPlan_1 ?_
  refine x_iloadn C dX4_firstOnPlan_4 (x := p1) rfl ?_
  refine x_Vv (st := []) C (c_mv_list  (p1) M) lk_X4_101 nC75 kC75 ⟨_, _, rfl⟩ rfl rfl (Nat.le_of_ble_eq_true rfl) (rmok_d (by decide) (by decide)) ⟨Nat.zero_le _, Nat.zero_le _⟩ dX4_firstOnPlan_5 (fun M1 => ?_)
  refine x_iconst C dX4_firstOnPlan_8 (v := (0 : Int32)) (by decide) ?_
  refine x_istoren C dX4_firstOnPlan_9 (L' := [some (.ref ((wC b).2.2.2 + 82)), some (.int p1), some (.int (0 : Int32)), none]) (ltb rfl) rfl ?_
  refine x_wk (L' := [some (.ref ((wC b).2.2.2 + 82)), some (.int p1), some (.int (0 : Int32)), none]) (And.intro rfl (And.intro rfl (And.intro rfl trivial))) (w_pl_firstOnPlan_L10 C p1  M1 ?_ FU ((0 : Int32)) )
  refine x_iconst C dX4_firstOnPlan_93 (v := (-1 : Int32)) (by decide) ?_
  exact x_iret C dX4_firstOnPlan_94 rfl
def pl_markPlans_L2  (K : Mem → Option Mem) : Nat → Int32 → Mem → Option Mem
  | 0, _, _ => none
  | fu + 1, x1, M => (if x1 < (2048 : Int32) then chk (inb x1 2048) (lt1 (wr M 86 x1.toNatClampNeg (0 : Int32)) fun M1 => pl_markPlans_L2 K fu ((x1 + (1 : Int32))) (M1)) else K (M))
def pl_markPlans_L29  (K : Mem → Option Mem) : Nat → Int32 → Mem → Option Mem
  | 0, _, _ => none
  | fu + 1, x1, M => (if x1 < 0 then K (M) else chk (inb x1 2048) ((pl_isGoal ((M 85 x1.toNatClampNeg)) M).bind fun v4 => (if v4 = 0 then bnd2 (pl_firstOnPlan ((M 85 x1.toNatClampNeg)) M) fun v7 M6 => (if v7 = (-1 : Int32) then chk (inb (M 85 x1.toNatClampNeg) 2048) (lt1 (wr M6 86 (M 85 x1.toNatClampNeg).toNatClampNeg (0 : Int32)) fun M8 => pl_markPlans_L29 K fu ((x1 + (-1 : Int32))) (M8)) else chk (inb (M 85 x1.toNatClampNeg) 2048) (lt1 (wr M6 86 (M 85 x1.toNatClampNeg).toNatClampNeg (1 : Int32)) fun M9 => pl_markPlans_L29 K fu ((x1 + (-1 : Int32))) (M9))) else chk (inb (M 85 x1.toNatClampNeg) 2048) (lt1 (wr M 86 (M 85 x1.toNatClampNeg).toNatClampNeg (1 : Int32)) fun M5 => pl_markPlans_L29 K fu ((x1 + (-1 : Int32))) (M5)))))
def pl_markPlans (M : Mem) : Option Mem := pl_markPlans_L2 (fun M3 => pl_markPlans_L29 (fun M11 => some M11) FU (((M3 82 6) - (1 : Int32))) M3) FU ((0 : Int32)) M
set_option maxHeartbeats 4000000 in
set_option maxRecDepth 20000 in
theorem w_pl_markPlans_L2 {z : ZT} {l : Launch} {g : GG} {b : Nat} (C : Cx z l g (wC b) (rmd 6) cX4_markPlans 3 RX4 none)  {K : Mem → Option Mem} (hK : ∀ (M : Mem) , XG z g (wC b) 3 (ZQ z g (wC b) finV) 0 0 22 [some (.ref ((wC b).2.2.2 + 82)), none, none] [] M (K M)) : ∀ (fu : Nat) (x1 : Int32) (M : Mem), XG z g (wC b) 3 (ZQ z g (wC b) finV) 0 0 2 [some (.ref ((wC b).2.2.2 + 82)), some (.int x1), none] [] M (pl_markPlans_L2 K fu x1 M) := by
  intro fu
  induction fu with
  | zero => intro x1 M; exact x_none
  | succ fu ih =>
    intro x1 M
    rw [pl_markPlans_L2]
    refine x_iloadn C dX4_markPlans_2 (x := x1) rfl ?_
    refine x_sipush C dX4_markPlans_3 (v := (2048 : Int32)) (by decide) ?_
    refine x_icmpge C dX4_markPlans_6 (tgt := 22) (by decide) (fun _h => ?_) (fun _h => ?_)
    · exact x_wk (L' := [some (.ref ((wC b).2.2.2 + 82)), none, none]) (And.intro rfl trivial) (hK (M))
    · refine x_aloadn C dX4_markPlans_9 rfl ?_
      refine x_getR C fl_X4_23 cl_4 (86) nC82 kC82 fC82_4 dX4_markPlans_10 ?_
      refine x_iloadn C dX4_markPlans_13 (x := x1) rfl ?_
      refine x_iconst C dX4_markPlans_14 (v := (0 : Int32)) (by decide) ?_
      refine x_zast C nC86 kC86 (by decide) dX4_markPlans_15 ?_
      refine x_ltM (fun M1 => ?_)
      refine x_iinc C dX4_markPlans_16 (v := (x1 + (1 : Int32))) rfl rfl (L' := [some (.ref ((wC b).2.2.2 + 82)), some (.int (x1 + (1 : Int32))), none]) rfl ?_
      refine x_goto C dX4_markPlans_19 (tgt := 2) (by decide) ?_
      exact x_wk (L' := [some (.ref ((wC b).2.2.2 + 82)), some (.int (x1 + (1 : Int32))), none]) (And.intro rfl (And.intro rfl trivial)) (ih ((x1 + (1 : Int32))) (M1))
set_option maxHeartbeats 4000000 in
set_option maxRecDepth 20000 in
theorem w_pl_markPlans_L29 {z : ZT} {l : Launch} {g : GG} {b : Nat} (C : Cx z l g (wC b) (rmd 6) cX4_markPlans 3 RX4 none)  {K : Mem → Option Mem} (hK : ∀ (M : Mem) , XG z g (wC b) 3 (ZQ z g (wC b) finV) 0 0 74 [none, none, none] [] M (K M)) : ∀ (fu : Nat) (x1 : Int32) (M : Mem), XG z g (wC b) 3 (ZQ z g (wC b) finV) 0 0 29 [some (.ref ((wC b).2.2.2 + 82)), some (.int x1), none] [] M (pl_markPlans_L29 K fu x1 M) := by
  intro fu
  induction fu with
  | zero => intro x1 M; exact x_none
  | succ fu ih =>
    intro x1 M
    rw [pl_markPlans_L29]
    refine x_iloadn C dX4_markPlans_29 (x := x1) rfl ?_
    refine x_iflt C dX4_markPlans_30 (tgt := 74) (by decide) (fun _h => ?_) (fun _h => ?_)
    · exact x_wk (L' := [none, none, none]) (trivial) (hK (M))
    · refine x_aloadn C dX4_markPlans_33 rfl ?_
      refine x_getR C fl_X4_20 cl_4 (85) nC82 kC82 fC82_3 dX4_markPlans_34 ?_
      refine x_iloadn C dX4_markPlans_37 (x := x1) rfl ?_
      refine x_iald C nC85 kC85 dX4_markPlans_38 ?_
      refine x_istoren C dX4_markPlans_39 (L' := [some (.ref ((wC b).2.2.2 + 82)), some (.int x1), some (.int (M 85 x1.toNatClampNeg))]) (ltb rfl) rfl ?_
      refine x_aloadn C dX4_markPlans_40 rfl ?_
      refine x_getR C fl_X4_23 cl_4 (86) nC82 kC82 fC82_4 dX4_markPlans_41 ?_
      refine x_iloadn C dX4_markPlans_44 (x := (M 85 x1.toNatClampNeg)) rfl ?_
      refine x_aloadn C dX4_markPlans_45 rfl ?_
      refine x_iloadn C dX4_markPlans_46 (x := (M 85 x1.toNatClampNeg)) rfl ?_
      refine x_Vi (st := [.int (M 85 x1.toNatClampNeg), .ref ((wC b).2.2.2 + 86)]) C (c_pl_isGoal  ((M 85 x1.toNatClampNeg)) M) lk_X4_66 nC82 kC82 ⟨_, _, rfl⟩ rfl rfl (Nat.le_of_ble_eq_true rfl) (rmok_d (by decide) (by decide)) ⟨Nat.zero_le _, Nat.zero_le _⟩ dX4_markPlans_47 (fun v4 => ?_)
      refine x_ifne C dX4_markPlans_50 (tgt := 62) (by decide) (fun _h => ?_) (fun _h => ?_)
      · refine x_iconst C dX4_markPlans_62 (v := (1 : Int32)) (by decide) ?_
        refine x_goto C dX4_markPlans_63 (tgt := 67) (by decide) ?_
        refine x_zast C nC86 kC86 (by decide) dX4_markPlans_67 ?_
        refine x_ltM (fun M5 => ?_)
        refine x_iinc C dX4_markPlans_68 (v := (x1 + (-1 : Int32))) rfl rfl (L' := [some (.ref ((wC b).2.2.2 + 82)), some (.int (x1 + (-1 : Int32))), some (.int (M 85 x1.toNatClampNeg))]) rfl ?_
        refine x_goto C dX4_markPlans_71 (tgt := 29) (by decide) ?_
        exact x_wk (L' := [some (.ref ((wC b).2.2.2 + 82)), some (.int (x1 + (-1 : Int32))), none]) (And.intro rfl (And.intro rfl trivial)) (ih ((x1 + (-1 : Int32))) (M5))
      · refine x_aloadn C dX4_markPlans_53 rfl ?_
        refine x_iloadn C dX4_markPlans_54 (x := (M 85 x1.toNatClampNeg)) rfl ?_
        refine x_Vm (st := [.int (M 85 x1.toNatClampNeg), .ref ((wC b).2.2.2 + 86)]) C (c_pl_firstOnPlan  ((M 85 x1.toNatClampNeg)) M) lk_X4_78 nC82 kC82 ⟨_, _, rfl⟩ rfl rfl (Nat.le_of_ble_eq_true rfl) (rmok_d (by decide) (by decide)) ⟨Nat.zero_le _, Nat.zero_le _⟩ dX4_markPlans_55 (fun v7 M6 => ?_)
        refine x_iconst C dX4_markPlans_58 (v := (-1 : Int32)) (by decide) ?_
        refine x_icmpeq C dX4_markPlans_59 (tgt := 66) (by decide) (fun _h => ?_) (fun _h => ?_)
        · refine x_iconst C dX4_markPlans_66 (v := (0 : Int32)) (by decide) ?_
          refine x_zast C nC86 kC86 (by decide) dX4_markPlans_67 ?_
          refine x_ltM (fun M8 => ?_)
          refine x_iinc C dX4_markPlans_68 (v := (x1 + (-1 : Int32))) rfl rfl (L' := [some (.ref ((wC b).2.2.2 + 82)), some (.int (x1 + (-1 : Int32))), some (.int (M 85 x1.toNatClampNeg))]) rfl ?_
          refine x_goto C dX4_markPlans_71 (tgt := 29) (by decide) ?_
          exact x_wk (L' := [some (.ref ((wC b).2.2.2 + 82)), some (.int (x1 + (-1 : Int32))), none]) (And.intro rfl (And.intro rfl trivial)) (ih ((x1 + (-1 : Int32))) (M8))
        · refine x_iconst C dX4_markPlans_62 (v := (1 : Int32)) (by decide) ?_
          refine x_goto C dX4_markPlans_63 (tgt := 67) (by decide) ?_
          refine x_zast C nC86 kC86 (by decide) dX4_markPlans_67 ?_
          refine x_ltM (fun M9 => ?_)
          refine x_iinc C dX4_markPlans_68 (v := (x1 + (-1 : Int32))) rfl rfl (L' := [some (.ref ((wC b).2.2.2 + 82)), some (.int (x1 + (-1 : Int32))), some (.int (M 85 x1.toNatClampNeg))]) rfl ?_
          refine x_goto C dX4_markPlans_71 (tgt := 29) (by decide) ?_
          exact x_wk (L' := [some (.ref ((wC b).2.2.2 + 82)), some (.int (x1 + (-1 : Int32))), none]) (And.intro rfl (And.intro rfl trivial)) (ih ((x1 + (-1 : Int32))) (M9))
set_option maxHeartbeats 4000000 in
set_option maxRecDepth 20000 in
theorem c_pl_markPlans {l : Launch} {g : GG} {b : Nat} (M : Mem) : CT l g (wC b) (rmd 6) yX4_markPlans cX4_markPlans 3 none [.ref ((wC b).2.2.2 + 82)] M finV (pl_markPlans  M) := by
  refine CT.of rfl (Nat.le_of_ble_eq_true rfl) (catc rfl cat0) (fun z C => ?_)
  have C : Cx z l g (wC b) (rmd 6) cX4_markPlans 3 RX4 none := C
  refine x_wk (L' := [some (.ref ((wC b).2.2.2 + 82)), none, none]) (And.intro rfl trivial) ?_
  rw [pl_markPlans]
  refine x_iconst C dX4_markPlans_0 (v := (0 : Int32)) (by decide) ?_
  refine x_istoren C dX4_markPlans_1 (L' := [some (.ref ((wC b).2.2.2 + 82)), some (.int (0 : Int32)), none]) (ltb rfl) rfl ?_
  refine x_wk (L' := [some (.ref ((wC b).2.2.2 + 82)), some (.int (0 : Int32)), none]) (And.intro rfl (And.intro rfl trivial)) (w_pl_markPlans_L2 C    (fun M3 => ?_) FU ((0 : Int32)) M)
  refine x_aloadn C dX4_markPlans_22 rfl ?_
  refine x_getI C fl_X4_31 cl_4 nC82 kC82 fC82_6 dX4_markPlans_23 ?_
  refine x_iconst C dX4_markPlans_26 (v := (1 : Int32)) (by decide) ?_
  refine x_isub C dX4_markPlans_27 ?_
  refine x_istoren C dX4_markPlans_28 (L' := [some (.ref ((wC b).2.2.2 + 82)), some (.int ((M3 82 6) - (1 : Int32))), none]) (ltb rfl) rfl ?_
  refine x_wk (L' := [some (.ref ((wC b).2.2.2 + 82)), some (.int ((M3 82 6) - (1 : Int32))), none]) (And.intro rfl (And.intro rfl trivial)) (w_pl_markPlans_L29 C    (fun M11 => ?_) FU (((M3 82 6) - (1 : Int32))) M3)
  exact x_vret C dX4_markPlans_74 rfl
def pl_step_L11 (p1 : Int32) (K : Mem → Option (Int32 × Mem)) : Nat → Int32 → Int32 → Mem → Option (Int32 × Mem)
  | 0, _, _, _ => none
  | fu + 1, x2, x3, M => (if x3 < (2048 : Int32) then (pl_isGoal (x2) M).bind fun v2 => (if v2 = 0 then bnd2 (pl_firstOnPlan (x2) M) fun v4 M3 => (if x3 = p1 then some (v4, M3) else (if v4 = (-1 : Int32) then some (v4, M3) else (mv_behind (x2) (v4) M3).bind fun v5 => pl_step_L11 p1 K fu (v5) ((x3 + (1 : Int32))) (M3))) else K (M)) else K (M))
def pl_step (p1 : Int32) (M : Mem) : Option (Int32 × Mem) := (pl_markPlans M).bind fun M1 => pl_step_L11 p1 (fun M7 => some ((-1 : Int32), M7)) FU ((M1 82 7)) ((0 : Int32)) M1
set_option maxHeartbeats 4000000 in
set_option maxRecDepth 20000 in
theorem w_pl_step_L11 {z : ZT} {l : Launch} {g : GG} {b : Nat} (C : Cx z l g (wC b) (rmd 7) cX4_step 5 RX4 (some .int)) (p1 : Int32) {K : Mem → Option (Int32 × Mem)} (hK : ∀ (M : Mem) , XG z g (wC b) 5 (ZQ z g (wC b) finM) 0 0 64 [none, none, none, none, none] [] M (K M)) : ∀ (fu : Nat) (x2 : Int32) (x3 : Int32) (M : Mem), XG z g (wC b) 5 (ZQ z g (wC b) finM) 0 0 11 [some (.ref ((wC b).2.2.2 + 82)), some (.int p1), some (.int x2), some (.int x3), none] [] M (pl_step_L11 p1 K fu x2 x3 M) := by
  intro fu
  induction fu with
  | zero => intro x2 x3 M; exact x_none
  | succ fu ih =>
    intro x2 x3 M
    rw [pl_step_L11]
    refine x_iloadn C dX4_step_11 (x := x3) rfl ?_
    refine x_sipush C dX4_step_12 (v := (2048 : Int32)) (by decide) ?_
    refine x_icmpge C dX4_step_15 (tgt := 64) (by decide) (fun _h => ?_) (fun _h => ?_)
    · exact x_wk (L' := [none, none, none, none, none]) (trivial) (hK (M))
    · refine x_aloadn C dX4_step_18 rfl ?_
      refine x_iloadn C dX4_step_19 (x := x2) rfl ?_
      refine x_Vi (st := []) C (c_pl_isGoal  (x2) M) lk_X4_66 nC82 kC82 ⟨_, _, rfl⟩ rfl rfl (Nat.le_of_ble_eq_true rfl) (rmok_d (by decide) (by decide)) ⟨Nat.zero_le _, Nat.zero_le _⟩ dX4_step_20 (fun v2 => ?_)
      refine x_ifne C dX4_step_23 (tgt := 64) (by decide) (fun _h => ?_) (fun _h => ?_)
      · exact x_wk (L' := [none, none, none, none, none]) (trivial) (hK (M))
      · refine x_aloadn C dX4_step_26 rfl ?_
        refine x_iloadn C dX4_step_27 (x := x2) rfl ?_
        refine x_Vm (st := []) C (c_pl_firstOnPlan  (x2) M) lk_X4_78 nC82 kC82 ⟨_, _, rfl⟩ rfl rfl (Nat.le_of_ble_eq_true rfl) (rmok_d (by decide) (by decide)) ⟨Nat.zero_le _, Nat.zero_le _⟩ dX4_step_28 (fun v4 M3 => ?_)
        refine x_istore C dX4_step_31 (L' := [some (.ref ((wC b).2.2.2 + 82)), some (.int p1), some (.int x2), some (.int x3), some (.int v4)]) (ltb rfl) rfl ?_
        refine x_iloadn C dX4_step_33 (x := x3) rfl ?_
        refine x_iloadn C dX4_step_34 (x := p1) rfl ?_
        refine x_icmpeq C dX4_step_35 (tgt := 44) (by decide) (fun _h => ?_) (fun _h => ?_)
        · refine x_iload C dX4_step_44 (x := v4) rfl ?_
          exact x_iret C dX4_step_46 rfl
        · refine x_iload C dX4_step_38 (x := v4) rfl ?_
          refine x_iconst C dX4_step_40 (v := (-1 : Int32)) (by decide) ?_
          refine x_icmpne C dX4_step_41 (tgt := 47) (by decide) (fun _h => ?_) (fun _h => ?_)
          · refine x_aloadn C dX4_step_47 rfl ?_
            refine x_getR C fl_X4_47 cl_4 (75) nC82 kC82 fC82_0 dX4_step_48 ?_
            refine x_iloadn C dX4_step_51 (x := x2) rfl ?_
            refine x_iload C dX4_step_52 (x := v4) rfl ?_
            refine x_Vi (st := []) C (c_mv_behind  (x2) (v4) M3) lk_X4_82 nC75 kC75 ⟨_, _, rfl⟩ rfl rfl (Nat.le_of_ble_eq_true rfl) (rmok_d (by decide) (by decide)) ⟨Nat.zero_le _, Nat.zero_le _⟩ dX4_step_54 (fun v5 => ?_)
            refine x_istoren C dX4_step_57 (L' := [some (.ref ((wC b).2.2.2 + 82)), some (.int p1), some (.int v5), some (.int x3), some (.int v4)]) (ltb rfl) rfl ?_
            refine x_iinc C dX4_step_58 (v := (x3 + (1 : Int32))) rfl rfl (L' := [some (.ref ((wC b).2.2.2 + 82)), some (.int p1), some (.int v5), some (.int (x3 + (1 : Int32))), some (.int v4)]) rfl ?_
            refine x_goto C dX4_step_61 (tgt := 11) (by decide) ?_
            exact x_wk (L' := [some (.ref ((wC b).2.2.2 + 82)), some (.int p1), some (.int v5), some (.int (x3 + (1 : Int32))), none]) (And.intro rfl (And.intro rfl (And.intro rfl (And.intro rfl trivial)))) (ih (v5) ((x3 + (1 : Int32))) (M3))
          · refine x_iload C dX4_step_44 (x := v4) rfl ?_
            exact x_iret C dX4_step_46 rfl
set_option maxHeartbeats 4000000 in
set_option maxRecDepth 20000 in
theorem c_pl_step {l : Launch} {g : GG} {b : Nat} (p1 : Int32) (M : Mem) : CT l g (wC b) (rmd 7) yX4_step cX4_step 5 (some .int) [.ref ((wC b).2.2.2 + 82), .int p1] M finM (pl_step p1 M) := by
  refine CT.of rfl (Nat.le_of_ble_eq_true rfl) (catc rfl (catc rfl cat0)) (fun z C => ?_)
  have C : Cx z l g (wC b) (rmd 7) cX4_step 5 RX4 (some .int) := C
  refine x_wk (L' := [some (.ref ((wC b).2.2.2 + 82)), some (.int p1), none, none, none]) (And.intro rfl (And.intro rfl trivial)) ?_
  rw [pl_step]
  refine x_aloadn C dX4_step_0 rfl ?_
  refine x_Vv (st := []) C (c_pl_markPlans   M) lk_X4_75 nC82 kC82 ⟨_, _, rfl⟩ rfl rfl (Nat.le_of_ble_eq_true rfl) (rmok_d (by decide) (by decide)) ⟨Nat.zero_le _, Nat.zero_le _⟩ dX4_step_1 (fun M1 => ?_)
  refine x_aloadn C dX4_step_4 rfl ?_
  refine x_getI C fl_X4_34 cl_4 nC82 kC82 fC82_7 dX4_step_5 ?_
  refine x_istoren C dX4_step_8 (L' := [some (.ref ((wC b).2.2.2 + 82)), some (.int p1), some (.int (M1 82 7)), none, none]) (ltb rfl) rfl ?_
  refine x_iconst C dX4_step_9 (v := (0 : Int32)) (by decide) ?_
  refine x_istoren C dX4_step_10 (L' := [some (.ref ((wC b).2.2.2 + 82)), some (.int p1), some (.int (M1 82 7)), some (.int (0 : Int32)), none]) (ltb rfl) rfl ?_
  refine x_wk (L' := [some (.ref ((wC b).2.2.2 + 82)), some (.int p1), some (.int (M1 82 7)), some (.int (0 : Int32)), none]) (And.intro rfl (And.intro rfl (And.intro rfl (And.intro rfl trivial)))) (w_pl_step_L11 C p1   (fun M7 => ?_) FU ((M1 82 7)) ((0 : Int32)) M1)
  refine x_iconst C dX4_step_64 (v := (-1 : Int32)) (by decide) ?_
  exact x_iret C dX4_step_65 rfl
def pl_leastLeft_L20 (p1 : Int32) (M : Mem) (K : Int32 → Option (Int32 × Mem)) : Nat → Int32 → Int32 → Option (Int32 × Mem)
  | 0, _, _ => none
  | fu + 1, x2, x3 => (if x3 < (M 82 6) then chk (inb x3 2048) (lt1 (((M 75 2) &&& (((M 85 x3.toNatClampNeg) >>> ((1 : Int32) &&& 31)) ^^^ (-1 : Int32)))) fun v3 => (ji_bitCount (v3) M).bind fun v4 => (ji_bitCount (x2) M).bind fun v5 => (ji_compare (v4) (v5) M).bind fun v6 => (if v6 < 0 then pl_leastLeft_L20 p1 M K fu (v3) ((x3 + (1 : Int32))) else (if v6 = 0 then (if v3 < x2 then pl_leastLeft_L20 p1 M K fu (v3) ((x3 + (1 : Int32))) else pl_leastLeft_L20 p1 M K fu (x2) ((x3 + (1 : Int32)))) else pl_leastLeft_L20 p1 M K fu (x2) ((x3 + (1 : Int32)))))) else K (x2))
def pl_leastLeft (p1 : Int32) (M : Mem) : Option (Int32 × Mem) := bnd2 (pl_search (p1) ((1024 : Int32)) ((1 : Int32)) M) fun v2 M1 => pl_leastLeft_L20 p1 M1 (fun v2_6 => some (v2_6, M1)) FU ((M1 75 2)) ((0 : Int32))
set_option maxHeartbeats 4000000 in
set_option maxRecDepth 20000 in
theorem w_pl_leastLeft_L20 {z : ZT} {l : Launch} {g : GG} {b : Nat} (C : Cx z l g (wC b) (rmd 7) cX4_leastLeft 6 RX4 (some .int)) (p1 : Int32) (M : Mem) {K : Int32 → Option (Int32 × Mem)} (hK : ∀ (x2 : Int32) , XG z g (wC b) 6 (ZQ z g (wC b) finM) 0 0 87 [none, none, some (.int x2), none, none, none] [] M (K x2)) : ∀ (fu : Nat) (x2 : Int32) (x3 : Int32), XG z g (wC b) 6 (ZQ z g (wC b) finM) 0 0 20 [some (.ref ((wC b).2.2.2 + 82)), none, some (.int x2), some (.int x3), none, none] [] M (pl_leastLeft_L20 p1 M K fu x2 x3) := by
  intro fu
  induction fu with
  | zero => intro x2 x3; exact x_none
  | succ fu ih =>
    intro x2 x3
    rw [pl_leastLeft_L20]
    refine x_iloadn C dX4_leastLeft_20 (x := x3) rfl ?_
    refine x_aloadn C dX4_leastLeft_21 rfl ?_
    refine x_getI C fl_X4_31 cl_4 nC82 kC82 fC82_6 dX4_leastLeft_22 ?_
    refine x_icmpge C dX4_leastLeft_25 (tgt := 87) (by decide) (fun _h => ?_) (fun _h => ?_)
    · exact x_wk (L' := [none, none, some (.int x2), none, none, none]) (And.intro rfl trivial) (hK (x2))
    · refine x_aloadn C dX4_leastLeft_28 rfl ?_
      refine x_getR C fl_X4_47 cl_4 (75) nC82 kC82 fC82_0 dX4_leastLeft_29 ?_
      refine x_getI C fl_X4_90 cl_2 nC75 kC75 fC75_2 dX4_leastLeft_32 ?_
      refine x_aloadn C dX4_leastLeft_35 rfl ?_
      refine x_getR C fl_X4_20 cl_4 (85) nC82 kC82 fC82_3 dX4_leastLeft_36 ?_
      refine x_iloadn C dX4_leastLeft_39 (x := x3) rfl ?_
      refine x_iald C nC85 kC85 dX4_leastLeft_40 ?_
      refine x_iconst C dX4_leastLeft_41 (v := (1 : Int32)) (by decide) ?_
      refine x_ishr C dX4_leastLeft_42 ?_
      refine x_iconst C dX4_leastLeft_43 (v := (-1 : Int32)) (by decide) ?_
      refine x_ixor C dX4_leastLeft_44 ?_
      refine x_iand C dX4_leastLeft_45 ?_
      refine x_lti (fun v3 => ?_)
      refine x_istore C dX4_leastLeft_46 (L' := [some (.ref ((wC b).2.2.2 + 82)), none, some (.int x2), some (.int x3), some (.int v3), none]) (ltb rfl) rfl ?_
      refine x_iload C dX4_leastLeft_48 (x := v3) rfl ?_
      refine x_Si (st := []) C (c_ji_bitCount  (v3) M) lk_X4_93 rfl rfl (Nat.le_of_ble_eq_true rfl) (rmok_d (by decide) (by decide)) ⟨Nat.zero_le _, Nat.zero_le _⟩ dX4_leastLeft_50 (fun v4 => ?_)
      refine x_iloadn C dX4_leastLeft_53 (x := x2) rfl ?_
      refine x_Si (st := [.int v4]) C (c_ji_bitCount  (x2) M) lk_X4_93 rfl rfl (Nat.le_of_ble_eq_true rfl) (rmok_d (by decide) (by decide)) ⟨Nat.zero_le _, Nat.zero_le _⟩ dX4_leastLeft_54 (fun v5 => ?_)
      refine x_Si (st := []) C (c_ji_compare  (v4) (v5) M) lk_X4_98 rfl rfl (Nat.le_of_ble_eq_true rfl) (rmok_d (by decide) (by decide)) ⟨Nat.zero_le _, Nat.zero_le _⟩ dX4_leastLeft_57 (fun v6 => ?_)
      refine x_istore C dX4_leastLeft_60 (L' := [some (.ref ((wC b).2.2.2 + 82)), none, some (.int x2), some (.int x3), some (.int v3), some (.int v6)]) (ltb rfl) rfl ?_
      refine x_iload C dX4_leastLeft_62 (x := v6) rfl ?_
      refine x_iflt C dX4_leastLeft_64 (tgt := 78) (by decide) (fun _h => ?_) (fun _h => ?_)
      · refine x_iload C dX4_leastLeft_78 (x := v3) rfl ?_
        refine x_istoren C dX4_leastLeft_80 (L' := [some (.ref ((wC b).2.2.2 + 82)), none, some (.int v3), some (.int x3), some (.int v3), some (.int v6)]) (ltb rfl) rfl ?_
        refine x_iinc C dX4_leastLeft_81 (v := (x3 + (1 : Int32))) rfl rfl (L' := [some (.ref ((wC b).2.2.2 + 82)), none, some (.int v3), some (.int (x3 + (1 : Int32))), some (.int v3), some (.int v6)]) rfl ?_
        refine x_goto C dX4_leastLeft_84 (tgt := 20) (by decide) ?_
        exact x_wk (L' := [some (.ref ((wC b).2.2.2 + 82)), none, some (.int v3), some (.int (x3 + (1 : Int32))), none, none]) (And.intro rfl (And.intro rfl (And.intro rfl trivial))) (ih (v3) ((x3 + (1 : Int32))))
      · refine x_iload C dX4_leastLeft_67 (x := v6) rfl ?_
        refine x_ifne C dX4_leastLeft_69 (tgt := 81) (by decide) (fun _h => ?_) (fun _h => ?_)
        · refine x_iinc C dX4_leastLeft_81 (v := (x3 + (1 : Int32))) rfl rfl (L' := [some (.ref ((wC b).2.2.2 + 82)), none, some (.int x2), some (.int (x3 + (1 : Int32))), some (.int v3), some (.int v6)]) rfl ?_
          refine x_goto C dX4_leastLeft_84 (tgt := 20) (by decide) ?_
          exact x_wk (L' := [some (.ref ((wC b).2.2.2 + 82)), none, some (.int x2), some (.int (x3 + (1 : Int32))), none, none]) (And.intro rfl (And.intro rfl (And.intro rfl trivial))) (ih (x2) ((x3 + (1 : Int32))))
        · refine x_iload C dX4_leastLeft_72 (x := v3) rfl ?_
          refine x_iloadn C dX4_leastLeft_74 (x := x2) rfl ?_
          refine x_icmpge C dX4_leastLeft_75 (tgt := 81) (by decide) (fun _h => ?_) (fun _h => ?_)
          · refine x_iinc C dX4_leastLeft_81 (v := (x3 + (1 : Int32))) rfl rfl (L' := [some (.ref ((wC b).2.2.2 + 82)), none, some (.int x2), some (.int (x3 + (1 : Int32))), some (.int v3), some (.int v6)]) rfl ?_
            refine x_goto C dX4_leastLeft_84 (tgt := 20) (by decide) ?_
            exact x_wk (L' := [some (.ref ((wC b).2.2.2 + 82)), none, some (.int x2), some (.int (x3 + (1 : Int32))), none, none]) (And.intro rfl (And.intro rfl (And.intro rfl trivial))) (ih (x2) ((x3 + (1 : Int32))))
          · refine x_iload C dX4_leastLeft_78 (x := v3) rfl ?_
            refine x_istoren C dX4_leastLeft_80 (L' := [some (.ref ((wC b).2.2.2 + 82)), none, some (.int v3), some (.int x3), some (.int v3), some (.int v6)]) (ltb rfl) rfl ?_
            refine x_iinc C dX4_leastLeft_81 (v := (x3 + (1 : Int32))) rfl rfl (L' := [some (.ref ((wC b).2.2.2 + 82)), none, some (.int v3), some (.int (x3 + (1 : Int32))), some (.int v3), some (.int v6)]) rfl ?_
            refine x_goto C dX4_leastLeft_84 (tgt := 20) (by decide) ?_
            exact x_wk (L' := [some (.ref ((wC b).2.2.2 + 82)), none, some (.int v3), some (.int (x3 + (1 : Int32))), none, none]) (And.intro rfl (And.intro rfl (And.intro rfl trivial))) (ih (v3) ((x3 + (1 : Int32))))
set_option maxHeartbeats 4000000 in
set_option maxRecDepth 20000 in
theorem c_pl_leastLeft {l : Launch} {g : GG} {b : Nat} (p1 : Int32) (M : Mem) : CT l g (wC b) (rmd 7) yX4_leastLeft cX4_leastLeft 6 (some .int) [.ref ((wC b).2.2.2 + 82), .int p1] M finM (pl_leastLeft p1 M) := by
  refine CT.of rfl (Nat.le_of_ble_eq_true rfl) (catc rfl (catc rfl cat0)) (fun z C => ?_)
  have C : Cx z l g (wC b) (rmd 7) cX4_leastLeft 6 RX4 (some .int) := C
  refine x_wk (L' := [some (.ref ((wC b).2.2.2 + 82)), some (.int p1), none, none, none, none]) (And.intro rfl (And.intro rfl trivial)) ?_
  rw [pl_leastLeft]
  refine x_aloadn C dX4_leastLeft_0 rfl ?_
  refine x_iloadn C dX4_leastLeft_1 (x := p1) rfl ?_
  refine x_sipush C dX4_leastLeft_2 (v := (1024 : Int32)) (by decide) ?_
  refine x_iconst C dX4_leastLeft_5 (v := (1 : Int32)) (by decide) ?_
  refine x_Vm (st := []) C (c_pl_search  (p1) ((1024 : Int32)) ((1 : Int32)) M) lk_X4_86 nC82 kC82 ⟨_, _, rfl⟩ rfl rfl (Nat.le_of_ble_eq_true rfl) (rmok_d (by decide) (by decide)) ⟨Nat.zero_le _, Nat.zero_le _⟩ dX4_leastLeft_6 (fun v2 M1 => ?_)
  refine x_pop C dX4_leastLeft_9 rfl ?_
  refine x_aloadn C dX4_leastLeft_10 rfl ?_
  refine x_getR C fl_X4_47 cl_4 (75) nC82 kC82 fC82_0 dX4_leastLeft_11 ?_
  refine x_getI C fl_X4_90 cl_2 nC75 kC75 fC75_2 dX4_leastLeft_14 ?_
  refine x_istoren C dX4_leastLeft_17 (L' := [some (.ref ((wC b).2.2.2 + 82)), some (.int p1), some (.int (M1 75 2)), none, none, none]) (ltb rfl) rfl ?_
  refine x_iconst C dX4_leastLeft_18 (v := (0 : Int32)) (by decide) ?_
  refine x_istoren C dX4_leastLeft_19 (L' := [some (.ref ((wC b).2.2.2 + 82)), some (.int p1), some (.int (M1 75 2)), some (.int (0 : Int32)), none, none]) (ltb rfl) rfl ?_
  refine x_wk (L' := [some (.ref ((wC b).2.2.2 + 82)), none, some (.int (M1 75 2)), some (.int (0 : Int32)), none, none]) (And.intro rfl (And.intro rfl (And.intro rfl trivial))) (w_pl_leastLeft_L20 C p1  M1 (fun v2_6 => ?_) FU ((M1 75 2)) ((0 : Int32)) )
  refine x_iloadn C dX4_leastLeft_87 (x := v2_6) rfl ?_
  exact x_iret C dX4_leastLeft_88 rfl
def od_take_L40  (K : Mem → Option (Int32 × Mem)) : Nat → Int32 → Mem → Option (Int32 × Mem)
  | 0, _, _ => none
  | fu + 1, x2, M => (if x2 < (M 87 2) then chk (inb ((2 : Int32) * x2) 400) (lt1 (((M 2 ((2 : Int32) * x2).toNatClampNeg) - (48 : Int32))) fun v2 => chk (inb (((2 : Int32) * x2) + (1 : Int32)) 400) (lt1 (((M 2 (((2 : Int32) * x2) + (1 : Int32)).toNatClampNeg) - (48 : Int32))) fun v3 => (if v2 < 0 then some ((0 : Int32), M) else (if v2 < (32 : Int32) then (if v3 < 0 then some ((0 : Int32), M) else (if v3 < (32 : Int32) then chk (inb x2 6) (lt1 (wr M 88 x2.toNatClampNeg ((v3 <<< ((5 : Int32) &&& 31)) ||| v2)) fun M4 => od_take_L40 K fu ((x2 + (1 : Int32))) (M4)) else some ((0 : Int32), M))) else some ((0 : Int32), M))))) else K (M))
def od_take (M : Mem) : Option (Int32 × Mem) := (if (M 1 1) < (2 : Int32) then some ((0 : Int32), M) else (if (12 : Int32) < (M 1 1) then some ((0 : Int32), M) else (if (irem (M 1 1) (2 : Int32)) = 0 then lt1 (wr M 87 2 ((M 1 1) / (2 : Int32))) fun M1 => od_take_L40 (fun M6 => some ((1 : Int32), M6)) FU ((0 : Int32)) M1 else some ((0 : Int32), M))))
set_option maxHeartbeats 4000000 in
set_option maxRecDepth 20000 in
theorem w_od_take_L40 {z : ZT} {l : Launch} {g : GG} {b : Nat} (C : Cx z l g (wC b) (rmd 1) cX3_take 5 RX3 (some .boolean))  {K : Mem → Option (Int32 × Mem)} (hK : ∀ (M : Mem) , XG z g (wC b) 5 (ZQ z g (wC b) finM) 0 0 117 [none, none, none, none, none] [] M (K M)) : ∀ (fu : Nat) (x2 : Int32) (M : Mem), XG z g (wC b) 5 (ZQ z g (wC b) finM) 0 0 40 [some (.ref ((wC b).2.2.2 + 87)), some (.ref ((wC b).2.2.2 + 1)), some (.int x2), none, none] [] M (od_take_L40 K fu x2 M) := by
  intro fu
  induction fu with
  | zero => intro x2 M; exact x_none
  | succ fu ih =>
    intro x2 M
    rw [od_take_L40]
    refine x_iloadn C dX3_take_40 (x := x2) rfl ?_
    refine x_aloadn C dX3_take_41 rfl ?_
    refine x_getI C fl_X3_15 cl_3 nC87 kC87 fC87_2 dX3_take_42 ?_
    refine x_icmpge C dX3_take_45 (tgt := 117) (by decide) (fun _h => ?_) (fun _h => ?_)
    · exact x_wk (L' := [none, none, none, none, none]) (trivial) (hK (M))
    · refine x_aloadn C dX3_take_48 rfl ?_
      refine x_getR C fl_X3_26 cl_9 (2) nC1 kC1 fC1_0 dX3_take_49 ?_
      refine x_iconst C dX3_take_52 (v := (2 : Int32)) (by decide) ?_
      refine x_iloadn C dX3_take_53 (x := x2) rfl ?_
      refine x_imul C dX3_take_54 ?_
      refine x_iald C nC2 kC2 dX3_take_55 ?_
      refine x_bipush C dX3_take_56 (v := (48 : Int32)) (by decide) ?_
      refine x_isub C dX3_take_58 ?_
      refine x_lti (fun v2 => ?_)
      refine x_istoren C dX3_take_59 (L' := [some (.ref ((wC b).2.2.2 + 87)), some (.ref ((wC b).2.2.2 + 1)), some (.int x2), some (.int v2), none]) (ltb rfl) rfl ?_
      refine x_aloadn C dX3_take_60 rfl ?_
      refine x_getR C fl_X3_26 cl_9 (2) nC1 kC1 fC1_0 dX3_take_61 ?_
      refine x_iconst C dX3_take_64 (v := (2 : Int32)) (by decide) ?_
      refine x_iloadn C dX3_take_65 (x := x2) rfl ?_
      refine x_imul C dX3_take_66 ?_
      refine x_iconst C dX3_take_67 (v := (1 : Int32)) (by decide) ?_
      refine x_iadd C dX3_take_68 ?_
      refine x_iald C nC2 kC2 dX3_take_69 ?_
      refine x_bipush C dX3_take_70 (v := (48 : Int32)) (by decide) ?_
      refine x_isub C dX3_take_72 ?_
      refine x_lti (fun v3 => ?_)
      refine x_istore C dX3_take_73 (L' := [some (.ref ((wC b).2.2.2 + 87)), some (.ref ((wC b).2.2.2 + 1)), some (.int x2), some (.int v2), some (.int v3)]) (ltb rfl) rfl ?_
      refine x_iloadn C dX3_take_75 (x := v2) rfl ?_
      refine x_iflt C dX3_take_76 (tgt := 97) (by decide) (fun _h => ?_) (fun _h => ?_)
      · refine x_iconst C dX3_take_97 (v := (0 : Int32)) (by decide) ?_
        exact x_zret C dX3_take_98 rfl rfl
      · refine x_iloadn C dX3_take_79 (x := v2) rfl ?_
        refine x_bipush C dX3_take_80 (v := (32 : Int32)) (by decide) ?_
        refine x_icmpge C dX3_take_82 (tgt := 97) (by decide) (fun _h => ?_) (fun _h => ?_)
        · refine x_iconst C dX3_take_97 (v := (0 : Int32)) (by decide) ?_
          exact x_zret C dX3_take_98 rfl rfl
        · refine x_iload C dX3_take_85 (x := v3) rfl ?_
          refine x_iflt C dX3_take_87 (tgt := 97) (by decide) (fun _h => ?_) (fun _h => ?_)
          · refine x_iconst C dX3_take_97 (v := (0 : Int32)) (by decide) ?_
            exact x_zret C dX3_take_98 rfl rfl
          · refine x_iload C dX3_take_90 (x := v3) rfl ?_
            refine x_bipush C dX3_take_92 (v := (32 : Int32)) (by decide) ?_
            refine x_icmplt C dX3_take_94 (tgt := 99) (by decide) (fun _h => ?_) (fun _h => ?_)
            · refine x_aloadn C dX3_take_99 rfl ?_
              refine x_getR C fl_X3_11 cl_3 (88) nC87 kC87 fC87_1 dX3_take_100 ?_
              refine x_iloadn C dX3_take_103 (x := x2) rfl ?_
              refine x_iload C dX3_take_104 (x := v3) rfl ?_
              refine x_iconst C dX3_take_106 (v := (5 : Int32)) (by decide) ?_
              refine x_ishl C dX3_take_107 ?_
              refine x_iloadn C dX3_take_108 (x := v2) rfl ?_
              refine x_ior C dX3_take_109 ?_
              refine x_iast C nC88 kC88 dX3_take_110 ?_
              refine x_ltM (fun M4 => ?_)
              refine x_iinc C dX3_take_111 (v := (x2 + (1 : Int32))) rfl rfl (L' := [some (.ref ((wC b).2.2.2 + 87)), some (.ref ((wC b).2.2.2 + 1)), some (.int (x2 + (1 : Int32))), some (.int v2), some (.int v3)]) rfl ?_
              refine x_goto C dX3_take_114 (tgt := 40) (by decide) ?_
              exact x_wk (L' := [some (.ref ((wC b).2.2.2 + 87)), some (.ref ((wC b).2.2.2 + 1)), some (.int (x2 + (1 : Int32))), none, none]) (And.intro rfl (And.intro rfl (And.intro rfl trivial))) (ih ((x2 + (1 : Int32))) (M4))
            · refine x_iconst C dX3_take_97 (v := (0 : Int32)) (by decide) ?_
              exact x_zret C dX3_take_98 rfl rfl
set_option maxHeartbeats 4000000 in
set_option maxRecDepth 20000 in
theorem c_od_take {l : Launch} {g : GG} {b : Nat} (M : Mem) : CT l g (wC b) (rmd 1) yX3_take cX3_take 5 (some .boolean) [.ref ((wC b).2.2.2 + 87), .ref ((wC b).2.2.2 + 1)] M finM (od_take  M) := by
  refine CT.of rfl (Nat.le_of_ble_eq_true rfl) (catc rfl (catc rfl cat0)) (fun z C => ?_)
  have C : Cx z l g (wC b) (rmd 1) cX3_take 5 RX3 (some .boolean) := C
  refine x_wk (L' := [some (.ref ((wC b).2.2.2 + 87)), some (.ref ((wC b).2.2.2 + 1)), none, none, none]) (And.intro rfl (And.intro rfl trivial)) ?_
  rw [od_take]
  refine x_aloadn C dX3_take_0 rfl ?_
  refine x_getI C fl_X3_23 cl_9 nC1 kC1 fC1_1 dX3_take_1 ?_
  refine x_iconst C dX3_take_4 (v := (2 : Int32)) (by decide) ?_
  refine x_icmplt C dX3_take_5 (tgt := 26) (by decide) (fun _h => ?_) (fun _h => ?_)
  · refine x_iconst C dX3_take_26 (v := (0 : Int32)) (by decide) ?_
    exact x_zret C dX3_take_27 rfl rfl
  · refine x_aloadn C dX3_take_8 rfl ?_
    refine x_getI C fl_X3_23 cl_9 nC1 kC1 fC1_1 dX3_take_9 ?_
    refine x_bipush C dX3_take_12 (v := (12 : Int32)) (by decide) ?_
    refine x_icmpgt C dX3_take_14 (tgt := 26) (by decide) (fun _h => ?_) (fun _h => ?_)
    · refine x_iconst C dX3_take_26 (v := (0 : Int32)) (by decide) ?_
      exact x_zret C dX3_take_27 rfl rfl
    · refine x_aloadn C dX3_take_17 rfl ?_
      refine x_getI C fl_X3_23 cl_9 nC1 kC1 fC1_1 dX3_take_18 ?_
      refine x_iconst C dX3_take_21 (v := (2 : Int32)) (by decide) ?_
      refine x_irem C dX3_take_22 (by decide) ?_
      refine x_ifeq C dX3_take_23 (tgt := 28) (by decide) (fun _h => ?_) (fun _h => ?_)
      · refine x_aloadn C dX3_take_28 rfl ?_
        refine x_aloadn C dX3_take_29 rfl ?_
        refine x_getI C fl_X3_23 cl_9 nC1 kC1 fC1_1 dX3_take_30 ?_
        refine x_iconst C dX3_take_33 (v := (2 : Int32)) (by decide) ?_
        refine x_idiv C dX3_take_34 (by decide) ?_
        refine x_putI C fl_X3_15 cl_3 fint_3_2 nC87 kC87 fC87_2 dX3_take_35 ?_
        refine x_ltM (fun M1 => ?_)
        refine x_iconst C dX3_take_38 (v := (0 : Int32)) (by decide) ?_
        refine x_istoren C dX3_take_39 (L' := [some (.ref ((wC b).2.2.2 + 87)), some (.ref ((wC b).2.2.2 + 1)), some (.int (0 : Int32)), none, none]) (ltb rfl) rfl ?_
        refine x_wk (L' := [some (.ref ((wC b).2.2.2 + 87)), some (.ref ((wC b).2.2.2 + 1)), some (.int (0 : Int32)), none, none]) (And.intro rfl (And.intro rfl (And.intro rfl trivial))) (w_od_take_L40 C    (fun M6 => ?_) FU ((0 : Int32)) M1)
        refine x_iconst C dX3_take_117 (v := (1 : Int32)) (by decide) ?_
        exact x_zret C dX3_take_118 rfl rfl
      · refine x_iconst C dX3_take_26 (v := (0 : Int32)) (by decide) ?_
        exact x_zret C dX3_take_27 rfl rfl
def od_ordersThrough (self : Int32 → Int32 → Mem → Option Int32) (p1 : Int32) (p2 : Int32) (p3 : Int32) (M : Mem) : Option Int32 := (if ((p2 >>> (p3 &&& 31)) &&& (1 : Int32)) = 0 then chk (inb p3 6) ((mv_ferrying (p1) ((M 88 p3.toNatClampNeg)) M).bind fun v1 => (if v1 = (-1 : Int32) then some ((0 : Int32)) else chk (inb p3 6) ((mv_behind (p1) ((M 88 p3.toNatClampNeg)) M).bind fun v2 => (self (v2) ((p2 ||| ((1 : Int32) <<< (p3 &&& 31)))) M).bind fun v3 => some (v3)))) else some ((0 : Int32)))
set_option maxHeartbeats 4000000 in
set_option maxRecDepth 20000 in
theorem c_od_ordersThrough {l : Launch} {g : GG} {b : Nat} {self : Int32 → Int32 → Mem → Option Int32} {ds : Nat} (hself : ∀ (a0 : Int32) (a1 : Int32) (M : Mem), CT l g (wC b) (rmd ds) yX3_ordersFrom cX3_ordersFrom 5 (some .int) [.ref ((wC b).2.2.2 + 87), .int a0, .int a1] M (finI M) (self a0 a1 M)) (p1 : Int32) (p2 : Int32) (p3 : Int32) (M : Mem) : CT l g (wC b) (rmd (ds + 4)) yX3_ordersThrough cX3_ordersThrough 4 (some .int) [.ref ((wC b).2.2.2 + 87), .int p1, .int p2, .int p3] M (finI M) (od_ordersThrough self p1 p2 p3 M) := by
  refine CT.of rfl (Nat.le_of_ble_eq_true rfl) (catc rfl (catc rfl (catc rfl (catc rfl cat0)))) (fun z C => ?_)
  have C : Cx z l g (wC b) (rmd (ds + 4)) cX3_ordersThrough 4 RX3 (some .int) := C
  refine x_wk (L' := [some (.ref ((wC b).2.2.2 + 87)), some (.int p1), some (.int p2), some (.int p3)]) (And.intro rfl (And.intro rfl (And.intro rfl (And.intro rfl trivial)))) ?_
  rw [od_ordersThrough]
  refine x_iloadn C dX3_ordersThrough_0 (x := p2) rfl ?_
  refine x_iloadn C dX3_ordersThrough_1 (x := p3) rfl ?_
  refine x_ishr C dX3_ordersThrough_2 ?_
  refine x_iconst C dX3_ordersThrough_3 (v := (1 : Int32)) (by decide) ?_
  refine x_iand C dX3_ordersThrough_4 ?_
  refine x_ifne C dX3_ordersThrough_5 (tgt := 26) (by decide) (fun _h => ?_) (fun _h => ?_)
  · refine x_iconst C dX3_ordersThrough_26 (v := (0 : Int32)) (by decide) ?_
    exact x_iret C dX3_ordersThrough_27 rfl
  · refine x_aloadn C dX3_ordersThrough_8 rfl ?_
    refine x_getR C fl_X3_19 cl_3 (75) nC87 kC87 fC87_0 dX3_ordersThrough_9 ?_
    refine x_iloadn C dX3_ordersThrough_12 (x := p1) rfl ?_
    refine x_aloadn C dX3_ordersThrough_13 rfl ?_
    refine x_getR C fl_X3_11 cl_3 (88) nC87 kC87 fC87_1 dX3_ordersThrough_14 ?_
    refine x_iloadn C dX3_ordersThrough_17 (x := p3) rfl ?_
    refine x_iald C nC88 kC88 dX3_ordersThrough_18 ?_
    refine x_Vi (st := []) C (c_mv_ferrying  (p1) ((M 88 p3.toNatClampNeg)) M) lk_X3_45 nC75 kC75 ⟨_, _, rfl⟩ rfl rfl (Nat.le_of_ble_eq_true rfl) (rmok_d (by omega) (by decide)) ⟨Nat.zero_le _, Nat.zero_le _⟩ dX3_ordersThrough_19 (fun v1 => ?_)
    refine x_iconst C dX3_ordersThrough_22 (v := (-1 : Int32)) (by decide) ?_
    refine x_icmpne C dX3_ordersThrough_23 (tgt := 28) (by decide) (fun _h => ?_) (fun _h => ?_)
    · refine x_aloadn C dX3_ordersThrough_28 rfl ?_
      refine x_aloadn C dX3_ordersThrough_29 rfl ?_
      refine x_getR C fl_X3_19 cl_3 (75) nC87 kC87 fC87_0 dX3_ordersThrough_30 ?_
      refine x_iloadn C dX3_ordersThrough_33 (x := p1) rfl ?_
      refine x_aloadn C dX3_ordersThrough_34 rfl ?_
      refine x_getR C fl_X3_11 cl_3 (88) nC87 kC87 fC87_1 dX3_ordersThrough_35 ?_
      refine x_iloadn C dX3_ordersThrough_38 (x := p3) rfl ?_
      refine x_iald C nC88 kC88 dX3_ordersThrough_39 ?_
      refine x_Vi (st := [.ref ((wC b).2.2.2 + 87)]) C (c_mv_behind  (p1) ((M 88 p3.toNatClampNeg)) M) lk_X3_36 nC75 kC75 ⟨_, _, rfl⟩ rfl rfl (Nat.le_of_ble_eq_true rfl) (rmok_d (by omega) (by decide)) ⟨Nat.zero_le _, Nat.zero_le _⟩ dX3_ordersThrough_40 (fun v2 => ?_)
      refine x_iloadn C dX3_ordersThrough_43 (x := p2) rfl ?_
      refine x_iconst C dX3_ordersThrough_44 (v := (1 : Int32)) (by decide) ?_
      refine x_iloadn C dX3_ordersThrough_45 (x := p3) rfl ?_
      refine x_ishl C dX3_ordersThrough_46 ?_
      refine x_ior C dX3_ordersThrough_47 ?_
      refine x_Vi (st := []) C (hself (v2) ((p2 ||| ((1 : Int32) <<< (p3 &&& 31)))) M) lk_X3_29 nC87 kC87 ⟨_, _, rfl⟩ rfl rfl (Nat.le_of_ble_eq_true rfl) (rmok_d (by omega) (by decide)) ⟨Nat.zero_le _, Nat.zero_le _⟩ dX3_ordersThrough_48 (fun v3 => ?_)
      exact x_iret C dX3_ordersThrough_51 rfl
    · refine x_iconst C dX3_ordersThrough_26 (v := (0 : Int32)) (by decide) ?_
      exact x_iret C dX3_ordersThrough_27 rfl
def od_ordersFrom_L19 (self : Int32 → Int32 → Mem → Option Int32) (p1 : Int32) (p2 : Int32) (M : Mem) (K : Int32 → Option Int32) : Nat → Int32 → Int32 → Option Int32
  | 0, _, _ => none
  | fu + 1, x3, x4 => (if x4 < (M 87 2) then (od_ordersThrough self (p1) (p2) (x4) M).bind fun v1 => od_ordersFrom_L19 self p1 p2 M K fu ((x3 + v1)) ((x4 + (1 : Int32))) else K (x3))
def od_ordersFrom_S (self : Int32 → Int32 → Mem → Option Int32) (p1 : Int32) (p2 : Int32) (M : Mem) : Option Int32 := (if p2 = (((1 : Int32) <<< ((M 87 2) &&& 31)) - (1 : Int32)) then some ((1 : Int32)) else od_ordersFrom_L19 self p1 p2 M (fun v3_1 => some (v3_1)) FU ((0 : Int32)) ((0 : Int32)))
def od_ordersFrom : Nat → Int32 → Int32 → Mem → Option Int32
  | 0 => fun _ _ _ => none
  | fu + 1 => fun p1 p2 M => od_ordersFrom_S (od_ordersFrom fu) p1 p2 M
set_option maxHeartbeats 4000000 in
set_option maxRecDepth 20000 in
theorem w_od_ordersFrom_L19 {z : ZT} {l : Launch} {g : GG} {b : Nat} {self : Int32 → Int32 → Mem → Option Int32} {ds : Nat} (C : Cx z l g (wC b) (rmd (ds + 5)) cX3_ordersFrom 5 RX3 (some .int)) (hself : ∀ (a0 : Int32) (a1 : Int32) (M : Mem), CT l g (wC b) (rmd ds) yX3_ordersFrom cX3_ordersFrom 5 (some .int) [.ref ((wC b).2.2.2 + 87), .int a0, .int a1] M (finI M) (self a0 a1 M)) (p1 : Int32) (p2 : Int32) (M : Mem) {K : Int32 → Option Int32} (hK : ∀ (x3 : Int32) , XG z g (wC b) 5 (ZQ z g (wC b) (finI M)) 0 0 45 [none, none, none, some (.int x3), none] [] M (K x3)) : ∀ (fu : Nat) (x3 : Int32) (x4 : Int32), XG z g (wC b) 5 (ZQ z g (wC b) (finI M)) 0 0 19 [some (.ref ((wC b).2.2.2 + 87)), some (.int p1), some (.int p2), some (.int x3), some (.int x4)] [] M (od_ordersFrom_L19 self p1 p2 M K fu x3 x4) := by
  intro fu
  induction fu with
  | zero => intro x3 x4; exact x_none
  | succ fu ih =>
    intro x3 x4
    rw [od_ordersFrom_L19]
    refine x_iload C dX3_ordersFrom_19 (x := x4) rfl ?_
    refine x_aloadn C dX3_ordersFrom_21 rfl ?_
    refine x_getI C fl_X3_15 cl_3 nC87 kC87 fC87_2 dX3_ordersFrom_22 ?_
    refine x_icmpge C dX3_ordersFrom_25 (tgt := 45) (by decide) (fun _h => ?_) (fun _h => ?_)
    · exact x_wk (L' := [none, none, none, some (.int x3), none]) (And.intro rfl trivial) (hK (x3))
    · refine x_iloadn C dX3_ordersFrom_28 (x := x3) rfl ?_
      refine x_aloadn C dX3_ordersFrom_29 rfl ?_
      refine x_iloadn C dX3_ordersFrom_30 (x := p1) rfl ?_
      refine x_iloadn C dX3_ordersFrom_31 (x := p2) rfl ?_
      refine x_iload C dX3_ordersFrom_32 (x := x4) rfl ?_
      refine x_Vi (st := [.int x3]) C (c_od_ordersThrough hself (p1) (p2) (x4) M) lk_X3_41 nC87 kC87 ⟨_, _, rfl⟩ rfl rfl (Nat.le_of_ble_eq_true rfl) (rmok_d (by omega) (by decide)) ⟨Nat.zero_le _, Nat.zero_le _⟩ dX3_ordersFrom_34 (fun v1 => ?_)
      refine x_iadd C dX3_ordersFrom_37 ?_
      refine x_istoren C dX3_ordersFrom_38 (L' := [some (.ref ((wC b).2.2.2 + 87)), some (.int p1), some (.int p2), some (.int (x3 + v1)), some (.int x4)]) (ltb rfl) rfl ?_
      refine x_iinc C dX3_ordersFrom_39 (v := (x4 + (1 : Int32))) rfl rfl (L' := [some (.ref ((wC b).2.2.2 + 87)), some (.int p1), some (.int p2), some (.int (x3 + v1)), some (.int (x4 + (1 : Int32)))]) rfl ?_
      refine x_goto C dX3_ordersFrom_42 (tgt := 19) (by decide) ?_
      exact x_wk (L' := [some (.ref ((wC b).2.2.2 + 87)), some (.int p1), some (.int p2), some (.int (x3 + v1)), some (.int (x4 + (1 : Int32)))]) (And.intro rfl (And.intro rfl (And.intro rfl (And.intro rfl (And.intro rfl trivial))))) (ih ((x3 + v1)) ((x4 + (1 : Int32))))
set_option maxHeartbeats 4000000 in
set_option maxRecDepth 20000 in
theorem c_od_ordersFrom_S {l : Launch} {g : GG} {b : Nat} {self : Int32 → Int32 → Mem → Option Int32} {ds : Nat} (hself : ∀ (a0 : Int32) (a1 : Int32) (M : Mem), CT l g (wC b) (rmd ds) yX3_ordersFrom cX3_ordersFrom 5 (some .int) [.ref ((wC b).2.2.2 + 87), .int a0, .int a1] M (finI M) (self a0 a1 M)) (p1 : Int32) (p2 : Int32) (M : Mem) : CT l g (wC b) (rmd (ds + 5)) yX3_ordersFrom cX3_ordersFrom 5 (some .int) [.ref ((wC b).2.2.2 + 87), .int p1, .int p2] M (finI M) (od_ordersFrom_S self p1 p2 M) := by
  refine CT.of rfl (Nat.le_of_ble_eq_true rfl) (catc rfl (catc rfl (catc rfl cat0))) (fun z C => ?_)
  have C : Cx z l g (wC b) (rmd (ds + 5)) cX3_ordersFrom 5 RX3 (some .int) := C
  refine x_wk (L' := [some (.ref ((wC b).2.2.2 + 87)), some (.int p1), some (.int p2), none, none]) (And.intro rfl (And.intro rfl (And.intro rfl trivial))) ?_
  rw [od_ordersFrom_S]
  refine x_iloadn C dX3_ordersFrom_0 (x := p2) rfl ?_
  refine x_iconst C dX3_ordersFrom_1 (v := (1 : Int32)) (by decide) ?_
  refine x_aloadn C dX3_ordersFrom_2 rfl ?_
  refine x_getI C fl_X3_15 cl_3 nC87 kC87 fC87_2 dX3_ordersFrom_3 ?_
  refine x_ishl C dX3_ordersFrom_6 ?_
  refine x_iconst C dX3_ordersFrom_7 (v := (1 : Int32)) (by decide) ?_
  refine x_isub C dX3_ordersFrom_8 ?_
  refine x_icmpne C dX3_ordersFrom_9 (tgt := 14) (by decide) (fun _h => ?_) (fun _h => ?_)
  · refine x_iconst C dX3_ordersFrom_14 (v := (0 : Int32)) (by decide) ?_
    refine x_istoren C dX3_ordersFrom_15 (L' := [some (.ref ((wC b).2.2.2 + 87)), some (.int p1), some (.int p2), some (.int (0 : Int32)), none]) (ltb rfl) rfl ?_
    refine x_iconst C dX3_ordersFrom_16 (v := (0 : Int32)) (by decide) ?_
    refine x_istore C dX3_ordersFrom_17 (L' := [some (.ref ((wC b).2.2.2 + 87)), some (.int p1), some (.int p2), some (.int (0 : Int32)), some (.int (0 : Int32))]) (ltb rfl) rfl ?_
    refine x_wk (L' := [some (.ref ((wC b).2.2.2 + 87)), some (.int p1), some (.int p2), some (.int (0 : Int32)), some (.int (0 : Int32))]) (And.intro rfl (And.intro rfl (And.intro rfl (And.intro rfl (And.intro rfl trivial))))) (w_od_ordersFrom_L19 C hself p1 p2  M (fun v3_1 => ?_) FU ((0 : Int32)) ((0 : Int32)) )
    refine x_iloadn C dX3_ordersFrom_45 (x := v3_1) rfl ?_
    exact x_iret C dX3_ordersFrom_46 rfl
  · refine x_iconst C dX3_ordersFrom_12 (v := (1 : Int32)) (by decide) ?_
    exact x_iret C dX3_ordersFrom_13 rfl
theorem c_od_ordersFrom {l : Launch} {g : GG} {b : Nat} : ∀ (fu : Nat) (p1 : Int32) (p2 : Int32) (M : Mem), CT l g (wC b) (rmd (1 + 5 * fu)) yX3_ordersFrom cX3_ordersFrom 5 (some .int) [.ref ((wC b).2.2.2 + 87), .int p1, .int p2] M (finI M) (od_ordersFrom fu p1 p2 M)
  | 0, _, _, _ => fun _ _ h => by cases h
  | fu + 1, p1, p2, M => c_od_ordersFrom_S (ds := 1 + 5 * fu) (c_od_ordersFrom fu) p1 p2 M
def od_howMany (p1 : Int32) (M : Mem) : Option Int32 := (od_ordersFrom FD (p1) ((0 : Int32)) M).bind fun v1 => some (v1)
set_option maxHeartbeats 4000000 in
set_option maxRecDepth 20000 in
theorem c_od_howMany {l : Launch} {g : GG} {b : Nat} (p1 : Int32) (M : Mem) : CT l g (wC b) (rmd 62) yX3_howMany cX3_howMany 2 (some .int) [.ref ((wC b).2.2.2 + 87), .int p1] M (finI M) (od_howMany p1 M) := by
  refine CT.of rfl (Nat.le_of_ble_eq_true rfl) (catc rfl (catc rfl cat0)) (fun z C => ?_)
  have C : Cx z l g (wC b) (rmd 62) cX3_howMany 2 RX3 (some .int) := C
  refine x_wk (L' := [some (.ref ((wC b).2.2.2 + 87)), some (.int p1)]) (And.intro rfl (And.intro rfl trivial)) ?_
  rw [od_howMany]
  refine x_aloadn C dX3_howMany_0 rfl ?_
  refine x_iloadn C dX3_howMany_1 (x := p1) rfl ?_
  refine x_iconst C dX3_howMany_2 (v := (0 : Int32)) (by decide) ?_
  refine x_Vi (st := []) C (c_od_ordersFrom FD (p1) ((0 : Int32)) M) lk_X3_29 nC87 kC87 ⟨_, _, rfl⟩ rfl rfl (Nat.le_of_ble_eq_true rfl) (rmok_d (by decide) (by decide)) ⟨Nat.zero_le _, Nat.zero_le _⟩ dX3_howMany_3 (fun v1 => ?_)
  exact x_iret C dX3_howMany_6 rfl
def od_firstNext_L2 (p1 : Int32) (p2 : Int32) (M : Mem) (K : Option Int32) : Nat → Int32 → Option Int32
  | 0, _ => none
  | fu + 1, x3 => (if x3 < (M 87 2) then (od_ordersThrough (od_ordersFrom FD) (p1) (p2) (x3) M).bind fun v1 => (if 0 < v1 then some (x3) else od_firstNext_L2 p1 p2 M K fu ((x3 + (1 : Int32)))) else K)
def od_firstNext (p1 : Int32) (p2 : Int32) (M : Mem) : Option Int32 := od_firstNext_L2 p1 p2 M (some ((-1 : Int32))) FU ((0 : Int32))
set_option maxHeartbeats 4000000 in
set_option maxRecDepth 20000 in
theorem w_od_firstNext_L2 {z : ZT} {l : Launch} {g : GG} {b : Nat} (C : Cx z l g (wC b) (rmd 66) cX3_firstNext 4 RX3 (some .int)) (p1 : Int32) (p2 : Int32) (M : Mem) {K : Option Int32} (hK : XG z g (wC b) 4 (ZQ z g (wC b) (finI M)) 0 0 28 [none, none, none, none] [] M (K )) : ∀ (fu : Nat) (x3 : Int32), XG z g (wC b) 4 (ZQ z g (wC b) (finI M)) 0 0 2 [some (.ref ((wC b).2.2.2 + 87)), some (.int p1), some (.int p2), some (.int x3)] [] M (od_firstNext_L2 p1 p2 M K fu x3) := by
  intro fu
  induction fu with
  | zero => intro x3; exact x_none
  | succ fu ih =>
    intro x3
    rw [od_firstNext_L2]
    refine x_iloadn C dX3_firstNext_2 (x := x3) rfl ?_
    refine x_aloadn C dX3_firstNext_3 rfl ?_
    refine x_getI C fl_X3_15 cl_3 nC87 kC87 fC87_2 dX3_firstNext_4 ?_
    refine x_icmpge C dX3_firstNext_7 (tgt := 28) (by decide) (fun _h => ?_) (fun _h => ?_)
    · exact x_wk (L' := [none, none, none, none]) (trivial) (hK )
    · refine x_aloadn C dX3_firstNext_10 rfl ?_
      refine x_iloadn C dX3_firstNext_11 (x := p1) rfl ?_
      refine x_iloadn C dX3_firstNext_12 (x := p2) rfl ?_
      refine x_iloadn C dX3_firstNext_13 (x := x3) rfl ?_
      refine x_Vi (st := []) C (c_od_ordersThrough (c_od_ordersFrom FD) (p1) (p2) (x3) M) lk_X3_41 nC87 kC87 ⟨_, _, rfl⟩ rfl rfl (Nat.le_of_ble_eq_true rfl) (rmok_d (by decide) (by decide)) ⟨Nat.zero_le _, Nat.zero_le _⟩ dX3_firstNext_14 (fun v1 => ?_)
      refine x_ifle C dX3_firstNext_17 (tgt := 22) (by decide) (fun _h => ?_) (fun _h => ?_)
      · refine x_iinc C dX3_firstNext_22 (v := (x3 + (1 : Int32))) rfl rfl (L' := [some (.ref ((wC b).2.2.2 + 87)), some (.int p1), some (.int p2), some (.int (x3 + (1 : Int32)))]) rfl ?_
        refine x_goto C dX3_firstNext_25 (tgt := 2) (by decide) ?_
        exact x_wk (L' := [some (.ref ((wC b).2.2.2 + 87)), some (.int p1), some (.int p2), some (.int (x3 + (1 : Int32)))]) (And.intro rfl (And.intro rfl (And.intro rfl (And.intro rfl trivial)))) (ih ((x3 + (1 : Int32))))
      · refine x_iloadn C dX3_firstNext_20 (x := x3) rfl ?_
        exact x_iret C dX3_firstNext_21 rfl
set_option maxHeartbeats 4000000 in
set_option maxRecDepth 20000 in
theorem c_od_firstNext {l : Launch} {g : GG} {b : Nat} (p1 : Int32) (p2 : Int32) (M : Mem) : CT l g (wC b) (rmd 66) yX3_firstNext cX3_firstNext 4 (some .int) [.ref ((wC b).2.2.2 + 87), .int p1, .int p2] M (finI M) (od_firstNext p1 p2 M) := by
  refine CT.of rfl (Nat.le_of_ble_eq_true rfl) (catc rfl (catc rfl (catc rfl cat0))) (fun z C => ?_)
  have C : Cx z l g (wC b) (rmd 66) cX3_firstNext 4 RX3 (some .int) := C
  refine x_wk (L' := [some (.ref ((wC b).2.2.2 + 87)), some (.int p1), some (.int p2), none]) (And.intro rfl (And.intro rfl (And.intro rfl trivial))) ?_
  rw [od_firstNext]
  refine x_iconst C dX3_firstNext_0 (v := (0 : Int32)) (by decide) ?_
  refine x_istoren C dX3_firstNext_1 (L' := [some (.ref ((wC b).2.2.2 + 87)), some (.int p1), some (.int p2), some (.int (0 : Int32))]) (ltb rfl) rfl ?_
  refine x_wk (L' := [some (.ref ((wC b).2.2.2 + 87)), some (.int p1), some (.int p2), some (.int (0 : Int32))]) (And.intro rfl (And.intro rfl (And.intro rfl (And.intro rfl trivial)))) (w_od_firstNext_L2 C p1 p2  M ?_ FU ((0 : Int32)) )
  refine x_iconst C dX3_firstNext_28 (v := (-1 : Int32)) (by decide) ?_
  exact x_iret C dX3_firstNext_29 rfl
def od_first_L8 (p1 : Int32) (p2 : Int32) (M : Mem) (K : Option Int32) : Nat → Int32 → Int32 → Int32 → Option Int32
  | 0, _, _, _ => none
  | fu + 1, x3, x4, x5 => (if x5 < (M 87 2) then (od_firstNext (x3) (x4) M).bind fun v1 => (if x5 = p2 then some (v1) else (if v1 = (-1 : Int32) then some (v1) else chk (inb v1 6) ((mv_behind (x3) ((M 88 v1.toNatClampNeg)) M).bind fun v2 => od_first_L8 p1 p2 M K fu (v2) ((x4 ||| ((1 : Int32) <<< (v1 &&& 31)))) ((x5 + (1 : Int32)))))) else K)
def od_first (p1 : Int32) (p2 : Int32) (M : Mem) : Option Int32 := od_first_L8 p1 p2 M (some ((-1 : Int32))) FU (p1) ((0 : Int32)) ((0 : Int32))
set_option maxHeartbeats 4000000 in
set_option maxRecDepth 20000 in
theorem w_od_first_L8 {z : ZT} {l : Launch} {g : GG} {b : Nat} (C : Cx z l g (wC b) (rmd 67) cX3_first 7 RX3 (some .int)) (p1 : Int32) (p2 : Int32) (M : Mem) {K : Option Int32} (hK : XG z g (wC b) 7 (ZQ z g (wC b) (finI M)) 0 0 72 [none, none, none, none, none, none, none] [] M (K )) : ∀ (fu : Nat) (x3 : Int32) (x4 : Int32) (x5 : Int32), XG z g (wC b) 7 (ZQ z g (wC b) (finI M)) 0 0 8 [some (.ref ((wC b).2.2.2 + 87)), none, some (.int p2), some (.int x3), some (.int x4), some (.int x5), none] [] M (od_first_L8 p1 p2 M K fu x3 x4 x5) := by
  intro fu
  induction fu with
  | zero => intro x3 x4 x5; exact x_none
  | succ fu ih =>
    intro x3 x4 x5
    rw [od_first_L8]
    refine x_iload C dX3_first_8 (x := x5) rfl ?_
    refine x_aloadn C dX3_first_10 rfl ?_
    refine x_getI C fl_X3_15 cl_3 nC87 kC87 fC87_2 dX3_first_11 ?_
    refine x_icmpge C dX3_first_14 (tgt := 72) (by decide) (fun _h => ?_) (fun _h => ?_)
    · exact x_wk (L' := [none, none, none, none, none, none, none]) (trivial) (hK )
    · refine x_aloadn C dX3_first_17 rfl ?_
      refine x_iloadn C dX3_first_18 (x := x3) rfl ?_
      refine x_iload C dX3_first_19 (x := x4) rfl ?_
      refine x_Vi (st := []) C (c_od_firstNext  (x3) (x4) M) lk_X3_33 nC87 kC87 ⟨_, _, rfl⟩ rfl rfl (Nat.le_of_ble_eq_true rfl) (rmok_d (by decide) (by decide)) ⟨Nat.zero_le _, Nat.zero_le _⟩ dX3_first_21 (fun v1 => ?_)
      refine x_istore C dX3_first_24 (L' := [some (.ref ((wC b).2.2.2 + 87)), none, some (.int p2), some (.int x3), some (.int x4), some (.int x5), some (.int v1)]) (ltb rfl) rfl ?_
      refine x_iload C dX3_first_26 (x := x5) rfl ?_
      refine x_iloadn C dX3_first_28 (x := p2) rfl ?_
      refine x_icmpeq C dX3_first_29 (tgt := 38) (by decide) (fun _h => ?_) (fun _h => ?_)
      · refine x_iload C dX3_first_38 (x := v1) rfl ?_
        exact x_iret C dX3_first_40 rfl
      · refine x_iload C dX3_first_32 (x := v1) rfl ?_
        refine x_iconst C dX3_first_34 (v := (-1 : Int32)) (by decide) ?_
        refine x_icmpne C dX3_first_35 (tgt := 41) (by decide) (fun _h => ?_) (fun _h => ?_)
        · refine x_aloadn C dX3_first_41 rfl ?_
          refine x_getR C fl_X3_19 cl_3 (75) nC87 kC87 fC87_0 dX3_first_42 ?_
          refine x_iloadn C dX3_first_45 (x := x3) rfl ?_
          refine x_aloadn C dX3_first_46 rfl ?_
          refine x_getR C fl_X3_11 cl_3 (88) nC87 kC87 fC87_1 dX3_first_47 ?_
          refine x_iload C dX3_first_50 (x := v1) rfl ?_
          refine x_iald C nC88 kC88 dX3_first_52 ?_
          refine x_Vi (st := []) C (c_mv_behind  (x3) ((M 88 v1.toNatClampNeg)) M) lk_X3_36 nC75 kC75 ⟨_, _, rfl⟩ rfl rfl (Nat.le_of_ble_eq_true rfl) (rmok_d (by decide) (by decide)) ⟨Nat.zero_le _, Nat.zero_le _⟩ dX3_first_53 (fun v2 => ?_)
          refine x_istoren C dX3_first_56 (L' := [some (.ref ((wC b).2.2.2 + 87)), none, some (.int p2), some (.int v2), some (.int x4), some (.int x5), some (.int v1)]) (ltb rfl) rfl ?_
          refine x_iload C dX3_first_57 (x := x4) rfl ?_
          refine x_iconst C dX3_first_59 (v := (1 : Int32)) (by decide) ?_
          refine x_iload C dX3_first_60 (x := v1) rfl ?_
          refine x_ishl C dX3_first_62 ?_
          refine x_ior C dX3_first_63 ?_
          refine x_istore C dX3_first_64 (L' := [some (.ref ((wC b).2.2.2 + 87)), none, some (.int p2), some (.int v2), some (.int (x4 ||| ((1 : Int32) <<< (v1 &&& 31)))), some (.int x5), some (.int v1)]) (ltb rfl) rfl ?_
          refine x_iinc C dX3_first_66 (v := (x5 + (1 : Int32))) rfl rfl (L' := [some (.ref ((wC b).2.2.2 + 87)), none, some (.int p2), some (.int v2), some (.int (x4 ||| ((1 : Int32) <<< (v1 &&& 31)))), some (.int (x5 + (1 : Int32))), some (.int v1)]) rfl ?_
          refine x_goto C dX3_first_69 (tgt := 8) (by decide) ?_
          exact x_wk (L' := [some (.ref ((wC b).2.2.2 + 87)), none, some (.int p2), some (.int v2), some (.int (x4 ||| ((1 : Int32) <<< (v1 &&& 31)))), some (.int (x5 + (1 : Int32))), none]) (And.intro rfl (And.intro rfl (And.intro rfl (And.intro rfl (And.intro rfl trivial))))) (ih (v2) ((x4 ||| ((1 : Int32) <<< (v1 &&& 31)))) ((x5 + (1 : Int32))))
        · refine x_iload C dX3_first_38 (x := v1) rfl ?_
          exact x_iret C dX3_first_40 rfl
set_option maxHeartbeats 4000000 in
set_option maxRecDepth 20000 in
theorem c_od_first {l : Launch} {g : GG} {b : Nat} (p1 : Int32) (p2 : Int32) (M : Mem) : CT l g (wC b) (rmd 67) yX3_first cX3_first 7 (some .int) [.ref ((wC b).2.2.2 + 87), .int p1, .int p2] M (finI M) (od_first p1 p2 M) := by
  refine CT.of rfl (Nat.le_of_ble_eq_true rfl) (catc rfl (catc rfl (catc rfl cat0))) (fun z C => ?_)
  have C : Cx z l g (wC b) (rmd 67) cX3_first 7 RX3 (some .int) := C
  refine x_wk (L' := [some (.ref ((wC b).2.2.2 + 87)), some (.int p1), some (.int p2), none, none, none, none]) (And.intro rfl (And.intro rfl (And.intro rfl trivial))) ?_
  rw [od_first]
  refine x_iloadn C dX3_first_0 (x := p1) rfl ?_
  refine x_istoren C dX3_first_1 (L' := [some (.ref ((wC b).2.2.2 + 87)), some (.int p1), some (.int p2), some (.int p1), none, none, none]) (ltb rfl) rfl ?_
  refine x_iconst C dX3_first_2 (v := (0 : Int32)) (by decide) ?_
  refine x_istore C dX3_first_3 (L' := [some (.ref ((wC b).2.2.2 + 87)), some (.int p1), some (.int p2), some (.int p1), some (.int (0 : Int32)), none, none]) (ltb rfl) rfl ?_
  refine x_iconst C dX3_first_5 (v := (0 : Int32)) (by decide) ?_
  refine x_istore C dX3_first_6 (L' := [some (.ref ((wC b).2.2.2 + 87)), some (.int p1), some (.int p2), some (.int p1), some (.int (0 : Int32)), some (.int (0 : Int32)), none]) (ltb rfl) rfl ?_
  refine x_wk (L' := [some (.ref ((wC b).2.2.2 + 87)), none, some (.int p2), some (.int p1), some (.int (0 : Int32)), some (.int (0 : Int32)), none]) (And.intro rfl (And.intro rfl (And.intro rfl (And.intro rfl (And.intro rfl trivial))))) (w_od_first_L8 C p1 p2  M ?_ FU (p1) ((0 : Int32)) ((0 : Int32)) )
  refine x_iconst C dX3_first_72 (v := (-1 : Int32)) (by decide) ?_
  exact x_iret C dX3_first_73 rfl
