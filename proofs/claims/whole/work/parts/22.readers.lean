def rr_kindOf (p1 : Int32) (M : Mem) : Option Int32 := (if teq p1 (4 : Int32) = true then some ((0 : Int32)) else (if teq p1 (5 : Int32) = true then some ((1 : Int32)) else (if teq p1 (6 : Int32) = true then some ((2 : Int32)) else (if teq p1 (7 : Int32) = true then some ((3 : Int32)) else some ((-1 : Int32))))))
set_option maxHeartbeats 4000000 in
set_option maxRecDepth 20000 in
theorem c_rr_kindOf {l : Launch} {g : GG} {b : Nat} (p1 : Int32) (M : Mem) : CT l g (wC b) (rmd 1) yX6_kindOf cX6_kindOf 1 (some .int) [va_rf (ths g p1)] M (finI M) (rr_kindOf p1 M) := by
  refine CT.of rfl (Nat.le_of_ble_eq_true rfl) (catc (cat_rf _) cat0) (fun z C => ?_)
  have C : Cx z l g (wC b) (rmd 1) cX6_kindOf 1 RX6 (some .int) := C
  refine x_wk (L' := [some (va_rf (ths g p1))]) (And.intro rfl trivial) ?_
  rw [rr_kindOf]
  refine x_qloadn C dX6_kindOf_0 rfl ?_
  refine x_gsT C 3 (4 : Int32) ft_X6_71 (by decide) dX6_kindOf_1 ?_
  refine x_acmpne C dX6_kindOf_4 (tgt := 9) (by decide) (fun _h => ?_) (fun _h => ?_)
  · refine x_qloadn C dX6_kindOf_9 rfl ?_
    refine x_gsT C 4 (5 : Int32) ft_X6_76 (by decide) dX6_kindOf_10 ?_
    refine x_acmpne C dX6_kindOf_13 (tgt := 18) (by decide) (fun _h => ?_) (fun _h => ?_)
    · refine x_qloadn C dX6_kindOf_18 rfl ?_
      refine x_gsT C 5 (6 : Int32) ft_X6_79 (by decide) dX6_kindOf_19 ?_
      refine x_acmpne C dX6_kindOf_22 (tgt := 27) (by decide) (fun _h => ?_) (fun _h => ?_)
      · refine x_qloadn C dX6_kindOf_27 rfl ?_
        refine x_gsT C 6 (7 : Int32) ft_X6_82 (by decide) dX6_kindOf_28 ?_
        refine x_acmpne C dX6_kindOf_31 (tgt := 38) (by decide) (fun _h => ?_) (fun _h => ?_)
        · refine x_iconst C dX6_kindOf_38 (v := (-1 : Int32)) (by decide) ?_
          exact x_iret C dX6_kindOf_39 rfl
        · refine x_iconst C dX6_kindOf_34 (v := (3 : Int32)) (by decide) ?_
          refine x_goto C dX6_kindOf_35 (tgt := 39) (by decide) ?_
          exact x_iret C dX6_kindOf_39 rfl
      · refine x_iconst C dX6_kindOf_25 (v := (2 : Int32)) (by decide) ?_
        exact x_iret C dX6_kindOf_26 rfl
    · refine x_iconst C dX6_kindOf_16 (v := (1 : Int32)) (by decide) ?_
      exact x_iret C dX6_kindOf_17 rfl
  · refine x_iconst C dX6_kindOf_7 (v := (0 : Int32)) (by decide) ?_
    exact x_iret C dX6_kindOf_8 rfl
def rr_readNumber (p1 : Int32) (p2 : Int32) (M : Mem) : Option (Int32 × Mem) := (tp_number M).bind fun v1 => (tp_thing M).bind fun v2 => (if teq v2 (2 : Int32) = true then (if v1 < p1 then some ((-1 : Int32), M) else (if p2 < v1 then some ((-1 : Int32), M) else (tp_next M).bind fun M3 => some (v1, M3))) else some ((-1 : Int32), M))
set_option maxHeartbeats 4000000 in
set_option maxRecDepth 20000 in
theorem c_rr_readNumber {l : Launch} {g : GG} {b : Nat} (p1 : Int32) (p2 : Int32) (M : Mem) : CT l g (wC b) (rmd 2) yX6_readNumber cX6_readNumber 4 (some .int) [.ref ((wC b).2.2.2 + 73), .int p1, .int p2] M finM (rr_readNumber p1 p2 M) := by
  refine CT.of rfl (Nat.le_of_ble_eq_true rfl) (catc rfl (catc rfl (catc rfl cat0))) (fun z C => ?_)
  have C : Cx z l g (wC b) (rmd 2) cX6_readNumber 4 RX6 (some .int) := C
  refine x_wk (L' := [some (.ref ((wC b).2.2.2 + 73)), some (.int p1), some (.int p2), none]) (And.intro rfl (And.intro rfl (And.intro rfl trivial))) ?_
  rw [rr_readNumber]
  refine x_aloadn C dX6_readNumber_0 rfl ?_
  refine x_getR C fl_X6_9 cl_6 (1) nC73 kC73 fC73_0 dX6_readNumber_1 ?_
  refine x_Vi (st := []) C (c_tp_number   M) lk_X6_148 nC1 kC1 ⟨_, _, rfl⟩ rfl rfl (Nat.le_of_ble_eq_true rfl) (rmok_d (by decide) (by decide)) ⟨Nat.zero_le _, Nat.zero_le _⟩ dX6_readNumber_4 (fun v1 => ?_)
  refine x_istoren C dX6_readNumber_7 (L' := [some (.ref ((wC b).2.2.2 + 73)), some (.int p1), some (.int p2), some (.int v1)]) (ltb rfl) rfl ?_
  refine x_aloadn C dX6_readNumber_8 rfl ?_
  refine x_getR C fl_X6_9 cl_6 (1) nC73 kC73 fC73_0 dX6_readNumber_9 ?_
  refine x_Vq (st := []) C (c_tp_thing   M) lk_X6_19 nC1 kC1 ⟨_, _, rfl⟩ rfl rfl (Nat.le_of_ble_eq_true rfl) (rmok_d (by decide) (by decide)) ⟨Nat.zero_le _, Nat.zero_le _⟩ dX6_readNumber_12 (fun v2 => ?_)
  refine x_gsT C 1 (2 : Int32) ft_X6_145 (by decide) dX6_readNumber_15 ?_
  refine x_acmpne C dX6_readNumber_18 (tgt := 31) (by decide) (fun _h => ?_) (fun _h => ?_)
  · refine x_iconst C dX6_readNumber_31 (v := (-1 : Int32)) (by decide) ?_
    exact x_iret C dX6_readNumber_32 rfl
  · refine x_iloadn C dX6_readNumber_21 (x := v1) rfl ?_
    refine x_iloadn C dX6_readNumber_22 (x := p1) rfl ?_
    refine x_icmplt C dX6_readNumber_23 (tgt := 31) (by decide) (fun _h => ?_) (fun _h => ?_)
    · refine x_iconst C dX6_readNumber_31 (v := (-1 : Int32)) (by decide) ?_
      exact x_iret C dX6_readNumber_32 rfl
    · refine x_iloadn C dX6_readNumber_26 (x := v1) rfl ?_
      refine x_iloadn C dX6_readNumber_27 (x := p2) rfl ?_
      refine x_icmple C dX6_readNumber_28 (tgt := 33) (by decide) (fun _h => ?_) (fun _h => ?_)
      · refine x_aloadn C dX6_readNumber_33 rfl ?_
        refine x_getR C fl_X6_9 cl_6 (1) nC73 kC73 fC73_0 dX6_readNumber_34 ?_
        refine x_Vv (st := []) C (c_tp_next   M) lk_X6_89 nC1 kC1 ⟨_, _, rfl⟩ rfl rfl (Nat.le_of_ble_eq_true rfl) (rmok_d (by decide) (by decide)) ⟨Nat.zero_le _, Nat.zero_le _⟩ dX6_readNumber_37 (fun M3 => ?_)
        refine x_iloadn C dX6_readNumber_40 (x := v1) rfl ?_
        exact x_iret C dX6_readNumber_41 rfl
      · refine x_iconst C dX6_readNumber_31 (v := (-1 : Int32)) (by decide) ?_
        exact x_iret C dX6_readNumber_32 rfl
def rr_readBeing_J51 (p1 : Int32) (x2 : Int32) (s0 : Int32) (M : Mem) : Option (Int32 × Mem) := (if s0 = (-1 : Int32) then some ((0 : Int32), M) else bnd2 (rr_readNumber ((1 : Int32)) ((99 : Int32)) M) fun v3 M2 => (if v3 = (-1 : Int32) then some ((0 : Int32), M2) else (if x2 = 0 then bnd2 (rv_addBeing 14 (p1) (s0) (v3) ((0 : Int32)) M2) fun v5 M4 => chk (isB v5) (some (v5, M4)) else bnd2 (tp_take ((8 : Int32)) M2) fun v7 M6 => (if v7 = 0 then bnd2 (rv_addBeing 14 (p1) (s0) (v3) ((0 : Int32)) M6) fun v9 M8 => chk (isB v9) (some (v9, M8)) else bnd2 (rv_addBeing 14 (p1) (s0) (v3) ((1 : Int32)) M6) fun v11 M10 => chk (isB v11) (some (v11, M10))))))
def rr_readBeing_J35 (p1 : Int32) (s0 : Int32) (M : Mem) : Option (Int32 × Mem) := (if s0 = 0 then rr_readBeing_J51 p1 (s0) ((0 : Int32)) M else bnd2 (rr_readNumber ((0 : Int32)) ((9 : Int32)) M) fun v13 M12 => rr_readBeing_J51 p1 (s0) (v13) M12)
def rr_readBeing_J30 (p1 : Int32) (M : Mem) : Option (Int32 × Mem) := rr_readBeing_J35 p1 ((1 : Int32)) M
def rr_readBeing (p1 : Int32) (M : Mem) : Option (Int32 × Mem) := (if (M 14 1) < (10 : Int32) then (tp_next M).bind fun M1 => (if p1 = 0 then rr_readBeing_J30 p1 M1 else (if p1 = (1 : Int32) then rr_readBeing_J30 p1 M1 else rr_readBeing_J35 p1 ((0 : Int32)) M1)) else some ((0 : Int32), M))
set_option maxHeartbeats 4000000 in
set_option maxRecDepth 20000 in
theorem w_rr_readBeing_J51 {z : ZT} {l : Launch} {g : GG} {b : Nat} (C : Cx z l g (wC b) (rmd 3) cX6_readBeing 6 RX6 (some .boolean)) (p1 : Int32)  (x2 : Int32) (s0 : Int32) (M : Mem) : XG z g (wC b) 6 (ZQ z g (wC b) finM) 0 0 51 [some (.ref ((wC b).2.2.2 + 73)), some (.int p1), some (.int x2), none, none, none] [.int s0] M (rr_readBeing_J51 p1 x2 s0 M) := by
  rw [rr_readBeing_J51]
  refine x_istoren C dX6_readBeing_51 (L' := [some (.ref ((wC b).2.2.2 + 73)), some (.int p1), some (.int x2), some (.int s0), none, none]) (ltb rfl) rfl ?_
  refine x_iloadn C dX6_readBeing_52 (x := s0) rfl ?_
  refine x_iconst C dX6_readBeing_53 (v := (-1 : Int32)) (by decide) ?_
  refine x_icmpne C dX6_readBeing_54 (tgt := 59) (by decide) (fun _h => ?_) (fun _h => ?_)
  · refine x_aloadn C dX6_readBeing_59 rfl ?_
    refine x_iconst C dX6_readBeing_60 (v := (1 : Int32)) (by decide) ?_
    refine x_bipush C dX6_readBeing_61 (v := (99 : Int32)) (by decide) ?_
    refine x_Vm (st := []) C (c_rr_readNumber  ((1 : Int32)) ((99 : Int32)) M) lk_X6_92 nC73 kC73 ⟨_, _, rfl⟩ rfl rfl (Nat.le_of_ble_eq_true rfl) (rmok_d (by decide) (by decide)) ⟨Nat.zero_le _, Nat.zero_le _⟩ dX6_readBeing_63 (fun v3 M2 => ?_)
    refine x_istore C dX6_readBeing_66 (L' := [some (.ref ((wC b).2.2.2 + 73)), some (.int p1), some (.int x2), some (.int s0), some (.int v3), none]) (ltb rfl) rfl ?_
    refine x_iload C dX6_readBeing_68 (x := v3) rfl ?_
    refine x_iconst C dX6_readBeing_70 (v := (-1 : Int32)) (by decide) ?_
    refine x_icmpne C dX6_readBeing_71 (tgt := 76) (by decide) (fun _h => ?_) (fun _h => ?_)
    · refine x_iloadn C dX6_readBeing_76 (x := x2) rfl ?_
      refine x_ifeq C dX6_readBeing_77 (tgt := 97) (by decide) (fun _h => ?_) (fun _h => ?_)
      · refine x_iconst C dX6_readBeing_97 (v := (0 : Int32)) (by decide) ?_
        refine x_istore C dX6_readBeing_98 (L' := [some (.ref ((wC b).2.2.2 + 73)), some (.int p1), some (.int x2), some (.int s0), some (.int v3), some (.int (0 : Int32))]) (ltb rfl) rfl ?_
        refine x_aloadn C dX6_readBeing_100 rfl ?_
        refine x_getR C fl_X6_15 cl_6 (14) nC73 kC73 fC73_1 dX6_readBeing_101 ?_
        refine x_iloadn C dX6_readBeing_104 (x := p1) rfl ?_
        refine x_iloadn C dX6_readBeing_105 (x := s0) rfl ?_
        refine x_iload C dX6_readBeing_106 (x := v3) rfl ?_
        refine x_iload C dX6_readBeing_108 (x := (0 : Int32)) rfl ?_
        refine x_Vm (st := []) C (c_rv_addBeing (Or.inr (Or.inl rfl)) (p1) (s0) (v3) ((0 : Int32)) M2) lk_X6_99 nC14 kC14 ⟨_, _, rfl⟩ rfl rfl (Nat.le_of_ble_eq_true rfl) (rmok_d (by decide) (by decide)) ⟨Nat.zero_le _, Nat.zero_le _⟩ dX6_readBeing_110 (fun v5 M4 => ?_)
        exact x_zretc C dX6_readBeing_113 rfl
      · refine x_aloadn C dX6_readBeing_80 rfl ?_
        refine x_getR C fl_X6_9 cl_6 (1) nC73 kC73 fC73_0 dX6_readBeing_81 ?_
        refine x_gsT C 7 (8 : Int32) ft_X6_96 (by decide) dX6_readBeing_84 ?_
        refine x_Vm (st := []) C (c_tp_take  ((8 : Int32)) M2) lk_X6_38 nC1 kC1 ⟨_, _, rfl⟩ rfl rfl (Nat.le_of_ble_eq_true rfl) (rmok_d (by decide) (by decide)) ⟨Nat.zero_le _, Nat.zero_le _⟩ dX6_readBeing_87 (fun v7 M6 => ?_)
        refine x_ifeq C dX6_readBeing_90 (tgt := 97) (by decide) (fun _h => ?_) (fun _h => ?_)
        · refine x_iconst C dX6_readBeing_97 (v := (0 : Int32)) (by decide) ?_
          refine x_istore C dX6_readBeing_98 (L' := [some (.ref ((wC b).2.2.2 + 73)), some (.int p1), some (.int x2), some (.int s0), some (.int v3), some (.int (0 : Int32))]) (ltb rfl) rfl ?_
          refine x_aloadn C dX6_readBeing_100 rfl ?_
          refine x_getR C fl_X6_15 cl_6 (14) nC73 kC73 fC73_1 dX6_readBeing_101 ?_
          refine x_iloadn C dX6_readBeing_104 (x := p1) rfl ?_
          refine x_iloadn C dX6_readBeing_105 (x := s0) rfl ?_
          refine x_iload C dX6_readBeing_106 (x := v3) rfl ?_
          refine x_iload C dX6_readBeing_108 (x := (0 : Int32)) rfl ?_
          refine x_Vm (st := []) C (c_rv_addBeing (Or.inr (Or.inl rfl)) (p1) (s0) (v3) ((0 : Int32)) M6) lk_X6_99 nC14 kC14 ⟨_, _, rfl⟩ rfl rfl (Nat.le_of_ble_eq_true rfl) (rmok_d (by decide) (by decide)) ⟨Nat.zero_le _, Nat.zero_le _⟩ dX6_readBeing_110 (fun v9 M8 => ?_)
          exact x_zretc C dX6_readBeing_113 rfl
        · refine x_iconst C dX6_readBeing_93 (v := (1 : Int32)) (by decide) ?_
          refine x_goto C dX6_readBeing_94 (tgt := 98) (by decide) ?_
          refine x_istore C dX6_readBeing_98 (L' := [some (.ref ((wC b).2.2.2 + 73)), some (.int p1), some (.int x2), some (.int s0), some (.int v3), some (.int (1 : Int32))]) (ltb rfl) rfl ?_
          refine x_aloadn C dX6_readBeing_100 rfl ?_
          refine x_getR C fl_X6_15 cl_6 (14) nC73 kC73 fC73_1 dX6_readBeing_101 ?_
          refine x_iloadn C dX6_readBeing_104 (x := p1) rfl ?_
          refine x_iloadn C dX6_readBeing_105 (x := s0) rfl ?_
          refine x_iload C dX6_readBeing_106 (x := v3) rfl ?_
          refine x_iload C dX6_readBeing_108 (x := (1 : Int32)) rfl ?_
          refine x_Vm (st := []) C (c_rv_addBeing (Or.inr (Or.inl rfl)) (p1) (s0) (v3) ((1 : Int32)) M6) lk_X6_99 nC14 kC14 ⟨_, _, rfl⟩ rfl rfl (Nat.le_of_ble_eq_true rfl) (rmok_d (by decide) (by decide)) ⟨Nat.zero_le _, Nat.zero_le _⟩ dX6_readBeing_110 (fun v11 M10 => ?_)
          exact x_zretc C dX6_readBeing_113 rfl
    · refine x_iconst C dX6_readBeing_74 (v := (0 : Int32)) (by decide) ?_
      exact x_zret C dX6_readBeing_75 rfl rfl
  · refine x_iconst C dX6_readBeing_57 (v := (0 : Int32)) (by decide) ?_
    exact x_zret C dX6_readBeing_58 rfl rfl
set_option maxHeartbeats 4000000 in
set_option maxRecDepth 20000 in
theorem w_rr_readBeing_J35 {z : ZT} {l : Launch} {g : GG} {b : Nat} (C : Cx z l g (wC b) (rmd 3) cX6_readBeing 6 RX6 (some .boolean)) (p1 : Int32)  (s0 : Int32) (M : Mem) : XG z g (wC b) 6 (ZQ z g (wC b) finM) 0 0 35 [some (.ref ((wC b).2.2.2 + 73)), some (.int p1), none, none, none, none] [.int s0] M (rr_readBeing_J35 p1 s0 M) := by
  rw [rr_readBeing_J35]
  refine x_istoren C dX6_readBeing_35 (L' := [some (.ref ((wC b).2.2.2 + 73)), some (.int p1), some (.int s0), none, none, none]) (ltb rfl) rfl ?_
  refine x_iloadn C dX6_readBeing_36 (x := s0) rfl ?_
  refine x_ifeq C dX6_readBeing_37 (tgt := 50) (by decide) (fun _h => ?_) (fun _h => ?_)
  · refine x_iconst C dX6_readBeing_50 (v := (0 : Int32)) (by decide) ?_
    exact x_wk (L' := [some (.ref ((wC b).2.2.2 + 73)), some (.int p1), some (.int s0), none, none, none]) (And.intro rfl (And.intro rfl (And.intro rfl trivial))) (w_rr_readBeing_J51 C p1  (s0) ((0 : Int32)) M)
  · refine x_aloadn C dX6_readBeing_40 rfl ?_
    refine x_iconst C dX6_readBeing_41 (v := (0 : Int32)) (by decide) ?_
    refine x_bipush C dX6_readBeing_42 (v := (9 : Int32)) (by decide) ?_
    refine x_Vm (st := []) C (c_rr_readNumber  ((0 : Int32)) ((9 : Int32)) M) lk_X6_92 nC73 kC73 ⟨_, _, rfl⟩ rfl rfl (Nat.le_of_ble_eq_true rfl) (rmok_d (by decide) (by decide)) ⟨Nat.zero_le _, Nat.zero_le _⟩ dX6_readBeing_44 (fun v13 M12 => ?_)
    refine x_goto C dX6_readBeing_47 (tgt := 51) (by decide) ?_
    exact x_wk (L' := [some (.ref ((wC b).2.2.2 + 73)), some (.int p1), some (.int s0), none, none, none]) (And.intro rfl (And.intro rfl (And.intro rfl trivial))) (w_rr_readBeing_J51 C p1  (s0) (v13) M12)
set_option maxHeartbeats 4000000 in
set_option maxRecDepth 20000 in
theorem w_rr_readBeing_J30 {z : ZT} {l : Launch} {g : GG} {b : Nat} (C : Cx z l g (wC b) (rmd 3) cX6_readBeing 6 RX6 (some .boolean)) (p1 : Int32)  (M : Mem) : XG z g (wC b) 6 (ZQ z g (wC b) finM) 0 0 30 [some (.ref ((wC b).2.2.2 + 73)), some (.int p1), none, none, none, none] [] M (rr_readBeing_J30 p1 M) := by
  rw [rr_readBeing_J30]
  refine x_iconst C dX6_readBeing_30 (v := (1 : Int32)) (by decide) ?_
  refine x_goto C dX6_readBeing_31 (tgt := 35) (by decide) ?_
  exact x_wk (L' := [some (.ref ((wC b).2.2.2 + 73)), some (.int p1), none, none, none, none]) (And.intro rfl (And.intro rfl trivial)) (w_rr_readBeing_J35 C p1   ((1 : Int32)) M)
set_option maxHeartbeats 4000000 in
set_option maxRecDepth 20000 in
theorem c_rr_readBeing {l : Launch} {g : GG} {b : Nat} (p1 : Int32) (M : Mem) : CT l g (wC b) (rmd 3) yX6_readBeing cX6_readBeing 6 (some .boolean) [.ref ((wC b).2.2.2 + 73), .int p1] M finM (rr_readBeing p1 M) := by
  refine CT.of rfl (Nat.le_of_ble_eq_true rfl) (catc rfl (catc rfl cat0)) (fun z C => ?_)
  have C : Cx z l g (wC b) (rmd 3) cX6_readBeing 6 RX6 (some .boolean) := C
  refine x_wk (L' := [some (.ref ((wC b).2.2.2 + 73)), some (.int p1), none, none, none, none]) (And.intro rfl (And.intro rfl trivial)) ?_
  rw [rr_readBeing]
  refine x_aloadn C dX6_readBeing_0 rfl ?_
  refine x_getR C fl_X6_15 cl_6 (14) nC73 kC73 fC73_1 dX6_readBeing_1 ?_
  refine x_getI C fl_X6_85 cl_5 nC14 kC14 fC14_1 dX6_readBeing_4 ?_
  refine x_bipush C dX6_readBeing_7 (v := (10 : Int32)) (by decide) ?_
  refine x_icmplt C dX6_readBeing_9 (tgt := 14) (by decide) (fun _h => ?_) (fun _h => ?_)
  · refine x_aloadn C dX6_readBeing_14 rfl ?_
    refine x_getR C fl_X6_9 cl_6 (1) nC73 kC73 fC73_0 dX6_readBeing_15 ?_
    refine x_Vv (st := []) C (c_tp_next   M) lk_X6_89 nC1 kC1 ⟨_, _, rfl⟩ rfl rfl (Nat.le_of_ble_eq_true rfl) (rmok_d (by decide) (by decide)) ⟨Nat.zero_le _, Nat.zero_le _⟩ dX6_readBeing_18 (fun M1 => ?_)
    refine x_iloadn C dX6_readBeing_21 (x := p1) rfl ?_
    refine x_ifeq C dX6_readBeing_22 (tgt := 30) (by decide) (fun _h => ?_) (fun _h => ?_)
    · exact x_wk (L' := [some (.ref ((wC b).2.2.2 + 73)), some (.int p1), none, none, none, none]) (And.intro rfl (And.intro rfl trivial)) (w_rr_readBeing_J30 C p1    M1)
    · refine x_iloadn C dX6_readBeing_25 (x := p1) rfl ?_
      refine x_iconst C dX6_readBeing_26 (v := (1 : Int32)) (by decide) ?_
      refine x_icmpne C dX6_readBeing_27 (tgt := 34) (by decide) (fun _h => ?_) (fun _h => ?_)
      · refine x_iconst C dX6_readBeing_34 (v := (0 : Int32)) (by decide) ?_
        exact x_wk (L' := [some (.ref ((wC b).2.2.2 + 73)), some (.int p1), none, none, none, none]) (And.intro rfl (And.intro rfl trivial)) (w_rr_readBeing_J35 C p1   ((0 : Int32)) M1)
      · exact x_wk (L' := [some (.ref ((wC b).2.2.2 + 73)), some (.int p1), none, none, none, none]) (And.intro rfl (And.intro rfl trivial)) (w_rr_readBeing_J30 C p1    M1)
  · refine x_iconst C dX6_readBeing_12 (v := (0 : Int32)) (by decide) ?_
    exact x_zret C dX6_readBeing_13 rfl rfl
def rr_readOther (p1 : Int32) (M : Mem) : Option (Int32 × Mem) := (tp_thing M).bind fun v1 => (if teq v1 (2 : Int32) = true then (tp_number M).bind fun v2 => (rv_hasBeing 14 (v2) M).bind fun v3 => (if v3 = 0 then some ((-1 : Int32), M) else (tp_number M).bind fun v4 => (if ((p1 >>> (v4 &&& 31)) &&& (1 : Int32)) = 0 then bnd2 (rr_readNumber ((0 : Int32)) ((9 : Int32)) M) fun v6 M5 => some (v6, M5) else some ((-1 : Int32), M))) else some ((-1 : Int32), M))
set_option maxHeartbeats 4000000 in
set_option maxRecDepth 20000 in
theorem c_rr_readOther {l : Launch} {g : GG} {b : Nat} (p1 : Int32) (M : Mem) : CT l g (wC b) (rmd 3) yX6_readOther cX6_readOther 2 (some .int) [.ref ((wC b).2.2.2 + 73), .int p1] M finM (rr_readOther p1 M) := by
  refine CT.of rfl (Nat.le_of_ble_eq_true rfl) (catc rfl (catc rfl cat0)) (fun z C => ?_)
  have C : Cx z l g (wC b) (rmd 3) cX6_readOther 2 RX6 (some .int) := C
  refine x_wk (L' := [some (.ref ((wC b).2.2.2 + 73)), some (.int p1)]) (And.intro rfl (And.intro rfl trivial)) ?_
  rw [rr_readOther]
  refine x_aloadn C dX6_readOther_0 rfl ?_
  refine x_getR C fl_X6_9 cl_6 (1) nC73 kC73 fC73_0 dX6_readOther_1 ?_
  refine x_Vq (st := []) C (c_tp_thing   M) lk_X6_19 nC1 kC1 ⟨_, _, rfl⟩ rfl rfl (Nat.le_of_ble_eq_true rfl) (rmok_d (by decide) (by decide)) ⟨Nat.zero_le _, Nat.zero_le _⟩ dX6_readOther_4 (fun v1 => ?_)
  refine x_gsT C 1 (2 : Int32) ft_X6_145 (by decide) dX6_readOther_7 ?_
  refine x_acmpne C dX6_readOther_10 (tgt := 52) (by decide) (fun _h => ?_) (fun _h => ?_)
  · refine x_iconst C dX6_readOther_52 (v := (-1 : Int32)) (by decide) ?_
    exact x_iret C dX6_readOther_53 rfl
  · refine x_aloadn C dX6_readOther_13 rfl ?_
    refine x_getR C fl_X6_15 cl_6 (14) nC73 kC73 fC73_1 dX6_readOther_14 ?_
    refine x_aloadn C dX6_readOther_17 rfl ?_
    refine x_getR C fl_X6_9 cl_6 (1) nC73 kC73 fC73_0 dX6_readOther_18 ?_
    refine x_Vi (st := [.ref ((wC b).2.2.2 + 14)]) C (c_tp_number   M) lk_X6_148 nC1 kC1 ⟨_, _, rfl⟩ rfl rfl (Nat.le_of_ble_eq_true rfl) (rmok_d (by decide) (by decide)) ⟨Nat.zero_le _, Nat.zero_le _⟩ dX6_readOther_21 (fun v2 => ?_)
    refine x_Vi (st := []) C (c_rv_hasBeing (Or.inr (Or.inl rfl)) (v2) M) lk_X6_152 nC14 kC14 ⟨_, _, rfl⟩ rfl rfl (Nat.le_of_ble_eq_true rfl) (rmok_d (by decide) (by decide)) ⟨Nat.zero_le _, Nat.zero_le _⟩ dX6_readOther_24 (fun v3 => ?_)
    refine x_ifeq C dX6_readOther_27 (tgt := 52) (by decide) (fun _h => ?_) (fun _h => ?_)
    · refine x_iconst C dX6_readOther_52 (v := (-1 : Int32)) (by decide) ?_
      exact x_iret C dX6_readOther_53 rfl
    · refine x_iloadn C dX6_readOther_30 (x := p1) rfl ?_
      refine x_aloadn C dX6_readOther_31 rfl ?_
      refine x_getR C fl_X6_9 cl_6 (1) nC73 kC73 fC73_0 dX6_readOther_32 ?_
      refine x_Vi (st := [.int p1]) C (c_tp_number   M) lk_X6_148 nC1 kC1 ⟨_, _, rfl⟩ rfl rfl (Nat.le_of_ble_eq_true rfl) (rmok_d (by decide) (by decide)) ⟨Nat.zero_le _, Nat.zero_le _⟩ dX6_readOther_35 (fun v4 => ?_)
      refine x_ishr C dX6_readOther_38 ?_
      refine x_iconst C dX6_readOther_39 (v := (1 : Int32)) (by decide) ?_
      refine x_iand C dX6_readOther_40 ?_
      refine x_ifne C dX6_readOther_41 (tgt := 52) (by decide) (fun _h => ?_) (fun _h => ?_)
      · refine x_iconst C dX6_readOther_52 (v := (-1 : Int32)) (by decide) ?_
        exact x_iret C dX6_readOther_53 rfl
      · refine x_aloadn C dX6_readOther_44 rfl ?_
        refine x_iconst C dX6_readOther_45 (v := (0 : Int32)) (by decide) ?_
        refine x_bipush C dX6_readOther_46 (v := (9 : Int32)) (by decide) ?_
        refine x_Vm (st := []) C (c_rr_readNumber  ((0 : Int32)) ((9 : Int32)) M) lk_X6_92 nC73 kC73 ⟨_, _, rfl⟩ rfl rfl (Nat.le_of_ble_eq_true rfl) (rmok_d (by decide) (by decide)) ⟨Nat.zero_le _, Nat.zero_le _⟩ dX6_readOther_48 (fun v6 M5 => ?_)
        exact x_iret C dX6_readOther_51 rfl
def rr_readApart (M : Mem) : Option (Int32 × Mem) := (if (M 14 10) < (12 : Int32) then (tp_next M).bind fun M1 => bnd2 (rr_readOther ((0 : Int32)) M1) fun v3 M2 => (if v3 = (-1 : Int32) then some ((0 : Int32), M2) else bnd2 (rr_readOther (((1 : Int32) <<< (v3 &&& 31))) M2) fun v5 M4 => (if v5 = (-1 : Int32) then some ((0 : Int32), M4) else lt1 ((((1 : Int32) <<< (v3 &&& 31)) ||| ((1 : Int32) <<< (v5 &&& 31)))) fun v6 => bnd2 (tp_take ((14 : Int32)) M4) fun v8 M7 => (if v8 = 0 then bnd2 (rv_addApart 14 (v6) ((0 : Int32)) M7) fun v14 M13 => chk (isB v14) (some (v14, M13)) else bnd2 (rr_readOther (v6) M7) fun v10 M9 => (if v10 = (-1 : Int32) then some ((0 : Int32), M9) else bnd2 (rv_addApart 14 (v6) (((1 : Int32) <<< (v10 &&& 31))) M9) fun v12 M11 => (if v12 = 0 then some ((0 : Int32), M11) else some ((1 : Int32), M11)))))) else some ((0 : Int32), M))
set_option maxHeartbeats 4000000 in
set_option maxRecDepth 20000 in
theorem c_rr_readApart {l : Launch} {g : GG} {b : Nat} (M : Mem) : CT l g (wC b) (rmd 4) yX6_readApart cX6_readApart 5 (some .boolean) [.ref ((wC b).2.2.2 + 73)] M finM (rr_readApart  M) := by
  refine CT.of rfl (Nat.le_of_ble_eq_true rfl) (catc rfl cat0) (fun z C => ?_)
  have C : Cx z l g (wC b) (rmd 4) cX6_readApart 5 RX6 (some .boolean) := C
  refine x_wk (L' := [some (.ref ((wC b).2.2.2 + 73)), none, none, none, none]) (And.intro rfl trivial) ?_
  rw [rr_readApart]
  refine x_aloadn C dX6_readApart_0 rfl ?_
  refine x_getR C fl_X6_15 cl_6 (14) nC73 kC73 fC73_1 dX6_readApart_1 ?_
  refine x_getI C fl_X6_103 cl_5 nC14 kC14 fC14_10 dX6_readApart_4 ?_
  refine x_bipush C dX6_readApart_7 (v := (12 : Int32)) (by decide) ?_
  refine x_icmplt C dX6_readApart_9 (tgt := 14) (by decide) (fun _h => ?_) (fun _h => ?_)
  · refine x_aloadn C dX6_readApart_14 rfl ?_
    refine x_getR C fl_X6_9 cl_6 (1) nC73 kC73 fC73_0 dX6_readApart_15 ?_
    refine x_Vv (st := []) C (c_tp_next   M) lk_X6_89 nC1 kC1 ⟨_, _, rfl⟩ rfl rfl (Nat.le_of_ble_eq_true rfl) (rmok_d (by decide) (by decide)) ⟨Nat.zero_le _, Nat.zero_le _⟩ dX6_readApart_18 (fun M1 => ?_)
    refine x_aloadn C dX6_readApart_21 rfl ?_
    refine x_iconst C dX6_readApart_22 (v := (0 : Int32)) (by decide) ?_
    refine x_Vm (st := []) C (c_rr_readOther  ((0 : Int32)) M1) lk_X6_106 nC73 kC73 ⟨_, _, rfl⟩ rfl rfl (Nat.le_of_ble_eq_true rfl) (rmok_d (by decide) (by decide)) ⟨Nat.zero_le _, Nat.zero_le _⟩ dX6_readApart_23 (fun v3 M2 => ?_)
    refine x_istoren C dX6_readApart_26 (L' := [some (.ref ((wC b).2.2.2 + 73)), some (.int v3), none, none, none]) (ltb rfl) rfl ?_
    refine x_iloadn C dX6_readApart_27 (x := v3) rfl ?_
    refine x_iconst C dX6_readApart_28 (v := (-1 : Int32)) (by decide) ?_
    refine x_icmpne C dX6_readApart_29 (tgt := 34) (by decide) (fun _h => ?_) (fun _h => ?_)
    · refine x_aloadn C dX6_readApart_34 rfl ?_
      refine x_iconst C dX6_readApart_35 (v := (1 : Int32)) (by decide) ?_
      refine x_iloadn C dX6_readApart_36 (x := v3) rfl ?_
      refine x_ishl C dX6_readApart_37 ?_
      refine x_Vm (st := []) C (c_rr_readOther  (((1 : Int32) <<< (v3 &&& 31))) M2) lk_X6_106 nC73 kC73 ⟨_, _, rfl⟩ rfl rfl (Nat.le_of_ble_eq_true rfl) (rmok_d (by decide) (by decide)) ⟨Nat.zero_le _, Nat.zero_le _⟩ dX6_readApart_38 (fun v5 M4 => ?_)
      refine x_istoren C dX6_readApart_41 (L' := [some (.ref ((wC b).2.2.2 + 73)), some (.int v3), some (.int v5), none, none]) (ltb rfl) rfl ?_
      refine x_iloadn C dX6_readApart_42 (x := v5) rfl ?_
      refine x_iconst C dX6_readApart_43 (v := (-1 : Int32)) (by decide) ?_
      refine x_icmpne C dX6_readApart_44 (tgt := 49) (by decide) (fun _h => ?_) (fun _h => ?_)
      · refine x_iconst C dX6_readApart_49 (v := (1 : Int32)) (by decide) ?_
        refine x_iloadn C dX6_readApart_50 (x := v3) rfl ?_
        refine x_ishl C dX6_readApart_51 ?_
        refine x_iconst C dX6_readApart_52 (v := (1 : Int32)) (by decide) ?_
        refine x_iloadn C dX6_readApart_53 (x := v5) rfl ?_
        refine x_ishl C dX6_readApart_54 ?_
        refine x_ior C dX6_readApart_55 ?_
        refine x_lti (fun v6 => ?_)
        refine x_istoren C dX6_readApart_56 (L' := [some (.ref ((wC b).2.2.2 + 73)), some (.int v3), some (.int v5), some (.int v6), none]) (ltb rfl) rfl ?_
        refine x_aloadn C dX6_readApart_57 rfl ?_
        refine x_getR C fl_X6_9 cl_6 (1) nC73 kC73 fC73_0 dX6_readApart_58 ?_
        refine x_gsT C 13 (14 : Int32) ft_X6_110 (by decide) dX6_readApart_61 ?_
        refine x_Vm (st := []) C (c_tp_take  ((14 : Int32)) M4) lk_X6_38 nC1 kC1 ⟨_, _, rfl⟩ rfl rfl (Nat.le_of_ble_eq_true rfl) (rmok_d (by decide) (by decide)) ⟨Nat.zero_le _, Nat.zero_le _⟩ dX6_readApart_64 (fun v8 M7 => ?_)
        refine x_ifne C dX6_readApart_67 (tgt := 80) (by decide) (fun _h => ?_) (fun _h => ?_)
        · refine x_aloadn C dX6_readApart_80 rfl ?_
          refine x_iloadn C dX6_readApart_81 (x := v6) rfl ?_
          refine x_Vm (st := []) C (c_rr_readOther  (v6) M7) lk_X6_106 nC73 kC73 ⟨_, _, rfl⟩ rfl rfl (Nat.le_of_ble_eq_true rfl) (rmok_d (by decide) (by decide)) ⟨Nat.zero_le _, Nat.zero_le _⟩ dX6_readApart_82 (fun v10 M9 => ?_)
          refine x_istore C dX6_readApart_85 (L' := [some (.ref ((wC b).2.2.2 + 73)), some (.int v3), some (.int v5), some (.int v6), some (.int v10)]) (ltb rfl) rfl ?_
          refine x_iload C dX6_readApart_87 (x := v10) rfl ?_
          refine x_iconst C dX6_readApart_89 (v := (-1 : Int32)) (by decide) ?_
          refine x_icmpeq C dX6_readApart_90 (tgt := 112) (by decide) (fun _h => ?_) (fun _h => ?_)
          · refine x_iconst C dX6_readApart_112 (v := (0 : Int32)) (by decide) ?_
            exact x_zret C dX6_readApart_113 rfl rfl
          · refine x_aloadn C dX6_readApart_93 rfl ?_
            refine x_getR C fl_X6_15 cl_6 (14) nC73 kC73 fC73_1 dX6_readApart_94 ?_
            refine x_iloadn C dX6_readApart_97 (x := v6) rfl ?_
            refine x_iconst C dX6_readApart_98 (v := (1 : Int32)) (by decide) ?_
            refine x_iload C dX6_readApart_99 (x := v10) rfl ?_
            refine x_ishl C dX6_readApart_101 ?_
            refine x_Vm (st := []) C (c_rv_addApart (Or.inr (Or.inl rfl)) (v6) (((1 : Int32) <<< (v10 &&& 31))) M9) lk_X6_113 nC14 kC14 ⟨_, _, rfl⟩ rfl rfl (Nat.le_of_ble_eq_true rfl) (rmok_d (by decide) (by decide)) ⟨Nat.zero_le _, Nat.zero_le _⟩ dX6_readApart_102 (fun v12 M11 => ?_)
            refine x_ifeq C dX6_readApart_105 (tgt := 112) (by decide) (fun _h => ?_) (fun _h => ?_)
            · refine x_iconst C dX6_readApart_112 (v := (0 : Int32)) (by decide) ?_
              exact x_zret C dX6_readApart_113 rfl rfl
            · refine x_iconst C dX6_readApart_108 (v := (1 : Int32)) (by decide) ?_
              refine x_goto C dX6_readApart_109 (tgt := 113) (by decide) ?_
              exact x_zret C dX6_readApart_113 rfl rfl
        · refine x_aloadn C dX6_readApart_70 rfl ?_
          refine x_getR C fl_X6_15 cl_6 (14) nC73 kC73 fC73_1 dX6_readApart_71 ?_
          refine x_iloadn C dX6_readApart_74 (x := v6) rfl ?_
          refine x_iconst C dX6_readApart_75 (v := (0 : Int32)) (by decide) ?_
          refine x_Vm (st := []) C (c_rv_addApart (Or.inr (Or.inl rfl)) (v6) ((0 : Int32)) M7) lk_X6_113 nC14 kC14 ⟨_, _, rfl⟩ rfl rfl (Nat.le_of_ble_eq_true rfl) (rmok_d (by decide) (by decide)) ⟨Nat.zero_le _, Nat.zero_le _⟩ dX6_readApart_76 (fun v14 M13 => ?_)
          exact x_zretc C dX6_readApart_79 rfl
      · refine x_iconst C dX6_readApart_47 (v := (0 : Int32)) (by decide) ?_
        exact x_zret C dX6_readApart_48 rfl rfl
    · refine x_iconst C dX6_readApart_32 (v := (0 : Int32)) (by decide) ?_
      exact x_zret C dX6_readApart_33 rfl rfl
  · refine x_iconst C dX6_readApart_12 (v := (0 : Int32)) (by decide) ?_
    exact x_zret C dX6_readApart_13 rfl rfl
def rr_readWith (M : Mem) : Option (Int32 × Mem) := (if (M 14 13) < (12 : Int32) then (tp_next M).bind fun M1 => bnd2 (rr_readOther ((0 : Int32)) M1) fun v3 M2 => (if v3 = (-1 : Int32) then some ((0 : Int32), M2) else bnd2 (rr_readOther (((1 : Int32) <<< (v3 &&& 31))) M2) fun v5 M4 => (if v5 = (-1 : Int32) then some ((0 : Int32), M4) else bnd2 (rv_addWith 14 (v3) (v5) M4) fun v7 M6 => (if v7 = 0 then some ((0 : Int32), M6) else some ((1 : Int32), M6)))) else some ((0 : Int32), M))
set_option maxHeartbeats 4000000 in
set_option maxRecDepth 20000 in
theorem c_rr_readWith {l : Launch} {g : GG} {b : Nat} (M : Mem) : CT l g (wC b) (rmd 4) yX6_readWith cX6_readWith 3 (some .boolean) [.ref ((wC b).2.2.2 + 73)] M finM (rr_readWith  M) := by
  refine CT.of rfl (Nat.le_of_ble_eq_true rfl) (catc rfl cat0) (fun z C => ?_)
  have C : Cx z l g (wC b) (rmd 4) cX6_readWith 3 RX6 (some .boolean) := C
  refine x_wk (L' := [some (.ref ((wC b).2.2.2 + 73)), none, none]) (And.intro rfl trivial) ?_
  rw [rr_readWith]
  refine x_aloadn C dX6_readWith_0 rfl ?_
  refine x_getR C fl_X6_15 cl_6 (14) nC73 kC73 fC73_1 dX6_readWith_1 ?_
  refine x_getI C fl_X6_117 cl_5 nC14 kC14 fC14_13 dX6_readWith_4 ?_
  refine x_bipush C dX6_readWith_7 (v := (12 : Int32)) (by decide) ?_
  refine x_icmplt C dX6_readWith_9 (tgt := 14) (by decide) (fun _h => ?_) (fun _h => ?_)
  · refine x_aloadn C dX6_readWith_14 rfl ?_
    refine x_getR C fl_X6_9 cl_6 (1) nC73 kC73 fC73_0 dX6_readWith_15 ?_
    refine x_Vv (st := []) C (c_tp_next   M) lk_X6_89 nC1 kC1 ⟨_, _, rfl⟩ rfl rfl (Nat.le_of_ble_eq_true rfl) (rmok_d (by decide) (by decide)) ⟨Nat.zero_le _, Nat.zero_le _⟩ dX6_readWith_18 (fun M1 => ?_)
    refine x_aloadn C dX6_readWith_21 rfl ?_
    refine x_iconst C dX6_readWith_22 (v := (0 : Int32)) (by decide) ?_
    refine x_Vm (st := []) C (c_rr_readOther  ((0 : Int32)) M1) lk_X6_106 nC73 kC73 ⟨_, _, rfl⟩ rfl rfl (Nat.le_of_ble_eq_true rfl) (rmok_d (by decide) (by decide)) ⟨Nat.zero_le _, Nat.zero_le _⟩ dX6_readWith_23 (fun v3 M2 => ?_)
    refine x_istoren C dX6_readWith_26 (L' := [some (.ref ((wC b).2.2.2 + 73)), some (.int v3), none]) (ltb rfl) rfl ?_
    refine x_iloadn C dX6_readWith_27 (x := v3) rfl ?_
    refine x_iconst C dX6_readWith_28 (v := (-1 : Int32)) (by decide) ?_
    refine x_icmpne C dX6_readWith_29 (tgt := 34) (by decide) (fun _h => ?_) (fun _h => ?_)
    · refine x_aloadn C dX6_readWith_34 rfl ?_
      refine x_iconst C dX6_readWith_35 (v := (1 : Int32)) (by decide) ?_
      refine x_iloadn C dX6_readWith_36 (x := v3) rfl ?_
      refine x_ishl C dX6_readWith_37 ?_
      refine x_Vm (st := []) C (c_rr_readOther  (((1 : Int32) <<< (v3 &&& 31))) M2) lk_X6_106 nC73 kC73 ⟨_, _, rfl⟩ rfl rfl (Nat.le_of_ble_eq_true rfl) (rmok_d (by decide) (by decide)) ⟨Nat.zero_le _, Nat.zero_le _⟩ dX6_readWith_38 (fun v5 M4 => ?_)
      refine x_istoren C dX6_readWith_41 (L' := [some (.ref ((wC b).2.2.2 + 73)), some (.int v3), some (.int v5)]) (ltb rfl) rfl ?_
      refine x_iloadn C dX6_readWith_42 (x := v5) rfl ?_
      refine x_iconst C dX6_readWith_43 (v := (-1 : Int32)) (by decide) ?_
      refine x_icmpeq C dX6_readWith_44 (tgt := 63) (by decide) (fun _h => ?_) (fun _h => ?_)
      · refine x_iconst C dX6_readWith_63 (v := (0 : Int32)) (by decide) ?_
        exact x_zret C dX6_readWith_64 rfl rfl
      · refine x_aloadn C dX6_readWith_47 rfl ?_
        refine x_getR C fl_X6_15 cl_6 (14) nC73 kC73 fC73_1 dX6_readWith_48 ?_
        refine x_iloadn C dX6_readWith_51 (x := v3) rfl ?_
        refine x_iloadn C dX6_readWith_52 (x := v5) rfl ?_
        refine x_Vm (st := []) C (c_rv_addWith (Or.inr (Or.inl rfl)) (v3) (v5) M4) lk_X6_120 nC14 kC14 ⟨_, _, rfl⟩ rfl rfl (Nat.le_of_ble_eq_true rfl) (rmok_d (by decide) (by decide)) ⟨Nat.zero_le _, Nat.zero_le _⟩ dX6_readWith_53 (fun v7 M6 => ?_)
        refine x_ifeq C dX6_readWith_56 (tgt := 63) (by decide) (fun _h => ?_) (fun _h => ?_)
        · refine x_iconst C dX6_readWith_63 (v := (0 : Int32)) (by decide) ?_
          exact x_zret C dX6_readWith_64 rfl rfl
        · refine x_iconst C dX6_readWith_59 (v := (1 : Int32)) (by decide) ?_
          refine x_goto C dX6_readWith_60 (tgt := 64) (by decide) ?_
          exact x_zret C dX6_readWith_64 rfl rfl
    · refine x_iconst C dX6_readWith_32 (v := (0 : Int32)) (by decide) ?_
      exact x_zret C dX6_readWith_33 rfl rfl
  · refine x_iconst C dX6_readWith_12 (v := (0 : Int32)) (by decide) ?_
    exact x_zret C dX6_readWith_13 rfl rfl
def rr_readStream (M : Mem) : Option (Int32 × Mem) := (tp_next M).bind fun M1 => bnd2 (rr_readNumber ((0 : Int32)) ((23 : Int32)) M1) fun v3 M2 => (if v3 = (-1 : Int32) then some ((0 : Int32), M2) else bnd2 (rr_readNumber ((0 : Int32)) ((9 : Int32)) M2) fun v5 M4 => (if v5 = (-1 : Int32) then some ((0 : Int32), M4) else (rv_setStream 14 (v3) (v5) M4).bind fun M6 => some ((1 : Int32), M6)))
set_option maxHeartbeats 4000000 in
set_option maxRecDepth 20000 in
theorem c_rr_readStream {l : Launch} {g : GG} {b : Nat} (M : Mem) : CT l g (wC b) (rmd 3) yX6_readStream cX6_readStream 3 (some .boolean) [.ref ((wC b).2.2.2 + 73)] M finM (rr_readStream  M) := by
  refine CT.of rfl (Nat.le_of_ble_eq_true rfl) (catc rfl cat0) (fun z C => ?_)
  have C : Cx z l g (wC b) (rmd 3) cX6_readStream 3 RX6 (some .boolean) := C
  refine x_wk (L' := [some (.ref ((wC b).2.2.2 + 73)), none, none]) (And.intro rfl trivial) ?_
  rw [rr_readStream]
  refine x_aloadn C dX6_readStream_0 rfl ?_
  refine x_getR C fl_X6_9 cl_6 (1) nC73 kC73 fC73_0 dX6_readStream_1 ?_
  refine x_Vv (st := []) C (c_tp_next   M) lk_X6_89 nC1 kC1 ⟨_, _, rfl⟩ rfl rfl (Nat.le_of_ble_eq_true rfl) (rmok_d (by decide) (by decide)) ⟨Nat.zero_le _, Nat.zero_le _⟩ dX6_readStream_4 (fun M1 => ?_)
  refine x_aloadn C dX6_readStream_7 rfl ?_
  refine x_iconst C dX6_readStream_8 (v := (0 : Int32)) (by decide) ?_
  refine x_bipush C dX6_readStream_9 (v := (23 : Int32)) (by decide) ?_
  refine x_Vm (st := []) C (c_rr_readNumber  ((0 : Int32)) ((23 : Int32)) M1) lk_X6_92 nC73 kC73 ⟨_, _, rfl⟩ rfl rfl (Nat.le_of_ble_eq_true rfl) (rmok_d (by decide) (by decide)) ⟨Nat.zero_le _, Nat.zero_le _⟩ dX6_readStream_11 (fun v3 M2 => ?_)
  refine x_istoren C dX6_readStream_14 (L' := [some (.ref ((wC b).2.2.2 + 73)), some (.int v3), none]) (ltb rfl) rfl ?_
  refine x_iloadn C dX6_readStream_15 (x := v3) rfl ?_
  refine x_iconst C dX6_readStream_16 (v := (-1 : Int32)) (by decide) ?_
  refine x_icmpne C dX6_readStream_17 (tgt := 22) (by decide) (fun _h => ?_) (fun _h => ?_)
  · refine x_aloadn C dX6_readStream_22 rfl ?_
    refine x_iconst C dX6_readStream_23 (v := (0 : Int32)) (by decide) ?_
    refine x_bipush C dX6_readStream_24 (v := (9 : Int32)) (by decide) ?_
    refine x_Vm (st := []) C (c_rr_readNumber  ((0 : Int32)) ((9 : Int32)) M2) lk_X6_92 nC73 kC73 ⟨_, _, rfl⟩ rfl rfl (Nat.le_of_ble_eq_true rfl) (rmok_d (by decide) (by decide)) ⟨Nat.zero_le _, Nat.zero_le _⟩ dX6_readStream_26 (fun v5 M4 => ?_)
    refine x_istoren C dX6_readStream_29 (L' := [some (.ref ((wC b).2.2.2 + 73)), some (.int v3), some (.int v5)]) (ltb rfl) rfl ?_
    refine x_iloadn C dX6_readStream_30 (x := v5) rfl ?_
    refine x_iconst C dX6_readStream_31 (v := (-1 : Int32)) (by decide) ?_
    refine x_icmpne C dX6_readStream_32 (tgt := 37) (by decide) (fun _h => ?_) (fun _h => ?_)
    · refine x_aloadn C dX6_readStream_37 rfl ?_
      refine x_getR C fl_X6_15 cl_6 (14) nC73 kC73 fC73_1 dX6_readStream_38 ?_
      refine x_iloadn C dX6_readStream_41 (x := v3) rfl ?_
      refine x_iloadn C dX6_readStream_42 (x := v5) rfl ?_
      refine x_Vv (st := []) C (c_rv_setStream (Or.inr (Or.inl rfl)) (v3) (v5) M4) lk_X6_123 nC14 kC14 ⟨_, _, rfl⟩ rfl rfl (Nat.le_of_ble_eq_true rfl) (rmok_d (by decide) (by decide)) ⟨Nat.zero_le _, Nat.zero_le _⟩ dX6_readStream_43 (fun M6 => ?_)
      refine x_iconst C dX6_readStream_46 (v := (1 : Int32)) (by decide) ?_
      exact x_zret C dX6_readStream_47 rfl rfl
    · refine x_iconst C dX6_readStream_35 (v := (0 : Int32)) (by decide) ?_
      exact x_zret C dX6_readStream_36 rfl rfl
  · refine x_iconst C dX6_readStream_20 (v := (0 : Int32)) (by decide) ?_
    exact x_zret C dX6_readStream_21 rfl rfl
def rr_readMeasure_J86 (p1 : Int32) (x2 : Int32) (x3 : Int32) (s0 : Int32) (M : Mem) : Option (Int32 × Mem) := (if s0 = (-1 : Int32) then some ((0 : Int32), M) else (if x2 = 0 then (if x3 = 0 then lt1 (wr M 14 8 s0) fun M4 => some ((1 : Int32), M4) else lt1 (wr M 14 7 s0) fun M5 => some ((1 : Int32), M5)) else lt1 (wr M 14 6 s0) fun M6 => some ((1 : Int32), M6)))
def rr_readMeasure_J43 (p1 : Int32) (x2 : Int32) (x3 : Int32) (M : Mem) : Option (Int32 × Mem) := (tp_next M).bind fun M1 => (if x2 = 0 then (if x3 = 0 then bnd2 (rr_readNumber ((1 : Int32)) ((60 : Int32)) M1) fun v3 M2 => rr_readMeasure_J86 p1 (x2) (x3) (v3) M2 else bnd2 (rr_readNumber ((0 : Int32)) ((99 : Int32)) M1) fun v8 M7 => rr_readMeasure_J86 p1 (x2) (x3) (v8) M7) else bnd2 (rr_readNumber ((1 : Int32)) ((999 : Int32)) M1) fun v10 M9 => rr_readMeasure_J86 p1 (x2) (x3) (v10) M9)
def rr_readMeasure_J25 (p1 : Int32) (x2 : Int32) (s0 : Int32) (M : Mem) : Option (Int32 × Mem) := (if x2 = 0 then (if s0 = 0 then (if teq p1 (11 : Int32) = true then rr_readMeasure_J43 p1 (x2) (s0) M else some ((0 : Int32), M)) else rr_readMeasure_J43 p1 (x2) (s0) M) else rr_readMeasure_J43 p1 (x2) (s0) M)
def rr_readMeasure_J12 (p1 : Int32) (s0 : Int32) (M : Mem) : Option (Int32 × Mem) := (if teq p1 (10 : Int32) = true then rr_readMeasure_J25 p1 (s0) ((1 : Int32)) M else rr_readMeasure_J25 p1 (s0) ((0 : Int32)) M)
def rr_readMeasure (p1 : Int32) (M : Mem) : Option (Int32 × Mem) := (if teq p1 (9 : Int32) = true then rr_readMeasure_J12 p1 ((1 : Int32)) M else rr_readMeasure_J12 p1 ((0 : Int32)) M)
set_option maxHeartbeats 4000000 in
set_option maxRecDepth 20000 in
theorem w_rr_readMeasure_J86 {z : ZT} {l : Launch} {g : GG} {b : Nat} (C : Cx z l g (wC b) (rmd 3) cX6_readMeasure 5 RX6 (some .boolean)) (p1 : Int32)  (x2 : Int32) (x3 : Int32) (s0 : Int32) (M : Mem) : XG z g (wC b) 5 (ZQ z g (wC b) finM) 0 0 86 [some (.ref ((wC b).2.2.2 + 73)), none, some (.int x2), some (.int x3), none] [.int s0] M (rr_readMeasure_J86 p1 x2 x3 s0 M) := by
  rw [rr_readMeasure_J86]
  refine x_istore C dX6_readMeasure_86 (L' := [some (.ref ((wC b).2.2.2 + 73)), none, some (.int x2), some (.int x3), some (.int s0)]) (ltb rfl) rfl ?_
  refine x_iload C dX6_readMeasure_88 (x := s0) rfl ?_
  refine x_iconst C dX6_readMeasure_90 (v := (-1 : Int32)) (by decide) ?_
  refine x_icmpne C dX6_readMeasure_91 (tgt := 96) (by decide) (fun _h => ?_) (fun _h => ?_)
  · refine x_iloadn C dX6_readMeasure_96 (x := x2) rfl ?_
    refine x_ifeq C dX6_readMeasure_97 (tgt := 112) (by decide) (fun _h => ?_) (fun _h => ?_)
    · refine x_iloadn C dX6_readMeasure_112 (x := x3) rfl ?_
      refine x_ifeq C dX6_readMeasure_113 (tgt := 128) (by decide) (fun _h => ?_) (fun _h => ?_)
      · refine x_aloadn C dX6_readMeasure_128 rfl ?_
        refine x_getR C fl_X6_15 cl_6 (14) nC73 kC73 fC73_1 dX6_readMeasure_129 ?_
        refine x_iload C dX6_readMeasure_132 (x := s0) rfl ?_
        refine x_putI C fl_X6_142 cl_5 fint_5_8 nC14 kC14 fC14_8 dX6_readMeasure_134 ?_
        refine x_ltM (fun M4 => ?_)
        refine x_iconst C dX6_readMeasure_137 (v := (1 : Int32)) (by decide) ?_
        exact x_zret C dX6_readMeasure_138 rfl rfl
      · refine x_aloadn C dX6_readMeasure_116 rfl ?_
        refine x_getR C fl_X6_15 cl_6 (14) nC73 kC73 fC73_1 dX6_readMeasure_117 ?_
        refine x_iload C dX6_readMeasure_120 (x := s0) rfl ?_
        refine x_putI C fl_X6_139 cl_5 fint_5_7 nC14 kC14 fC14_7 dX6_readMeasure_122 ?_
        refine x_ltM (fun M5 => ?_)
        refine x_goto C dX6_readMeasure_125 (tgt := 137) (by decide) ?_
        refine x_iconst C dX6_readMeasure_137 (v := (1 : Int32)) (by decide) ?_
        exact x_zret C dX6_readMeasure_138 rfl rfl
    · refine x_aloadn C dX6_readMeasure_100 rfl ?_
      refine x_getR C fl_X6_15 cl_6 (14) nC73 kC73 fC73_1 dX6_readMeasure_101 ?_
      refine x_iload C dX6_readMeasure_104 (x := s0) rfl ?_
      refine x_putI C fl_X6_136 cl_5 fint_5_6 nC14 kC14 fC14_6 dX6_readMeasure_106 ?_
      refine x_ltM (fun M6 => ?_)
      refine x_goto C dX6_readMeasure_109 (tgt := 137) (by decide) ?_
      refine x_iconst C dX6_readMeasure_137 (v := (1 : Int32)) (by decide) ?_
      exact x_zret C dX6_readMeasure_138 rfl rfl
  · refine x_iconst C dX6_readMeasure_94 (v := (0 : Int32)) (by decide) ?_
    exact x_zret C dX6_readMeasure_95 rfl rfl
set_option maxHeartbeats 4000000 in
set_option maxRecDepth 20000 in
theorem w_rr_readMeasure_J43 {z : ZT} {l : Launch} {g : GG} {b : Nat} (C : Cx z l g (wC b) (rmd 3) cX6_readMeasure 5 RX6 (some .boolean)) (p1 : Int32)  (x2 : Int32) (x3 : Int32) (M : Mem) : XG z g (wC b) 5 (ZQ z g (wC b) finM) 0 0 43 [some (.ref ((wC b).2.2.2 + 73)), none, some (.int x2), some (.int x3), none] [] M (rr_readMeasure_J43 p1 x2 x3 M) := by
  rw [rr_readMeasure_J43]
  refine x_aloadn C dX6_readMeasure_43 rfl ?_
  refine x_getR C fl_X6_9 cl_6 (1) nC73 kC73 fC73_0 dX6_readMeasure_44 ?_
  refine x_Vv (st := []) C (c_tp_next   M) lk_X6_89 nC1 kC1 ⟨_, _, rfl⟩ rfl rfl (Nat.le_of_ble_eq_true rfl) (rmok_d (by decide) (by decide)) ⟨Nat.zero_le _, Nat.zero_le _⟩ dX6_readMeasure_47 (fun M1 => ?_)
  refine x_iloadn C dX6_readMeasure_50 (x := x2) rfl ?_
  refine x_ifeq C dX6_readMeasure_51 (tgt := 65) (by decide) (fun _h => ?_) (fun _h => ?_)
  · refine x_iloadn C dX6_readMeasure_65 (x := x3) rfl ?_
    refine x_ifeq C dX6_readMeasure_66 (tgt := 79) (by decide) (fun _h => ?_) (fun _h => ?_)
    · refine x_aloadn C dX6_readMeasure_79 rfl ?_
      refine x_iconst C dX6_readMeasure_80 (v := (1 : Int32)) (by decide) ?_
      refine x_bipush C dX6_readMeasure_81 (v := (60 : Int32)) (by decide) ?_
      refine x_Vm (st := []) C (c_rr_readNumber  ((1 : Int32)) ((60 : Int32)) M1) lk_X6_92 nC73 kC73 ⟨_, _, rfl⟩ rfl rfl (Nat.le_of_ble_eq_true rfl) (rmok_d (by decide) (by decide)) ⟨Nat.zero_le _, Nat.zero_le _⟩ dX6_readMeasure_83 (fun v3 M2 => ?_)
      exact x_wk (L' := [some (.ref ((wC b).2.2.2 + 73)), none, some (.int x2), some (.int x3), none]) (And.intro rfl (And.intro rfl (And.intro rfl trivial))) (w_rr_readMeasure_J86 C p1  (x2) (x3) (v3) M2)
    · refine x_aloadn C dX6_readMeasure_69 rfl ?_
      refine x_iconst C dX6_readMeasure_70 (v := (0 : Int32)) (by decide) ?_
      refine x_bipush C dX6_readMeasure_71 (v := (99 : Int32)) (by decide) ?_
      refine x_Vm (st := []) C (c_rr_readNumber  ((0 : Int32)) ((99 : Int32)) M1) lk_X6_92 nC73 kC73 ⟨_, _, rfl⟩ rfl rfl (Nat.le_of_ble_eq_true rfl) (rmok_d (by decide) (by decide)) ⟨Nat.zero_le _, Nat.zero_le _⟩ dX6_readMeasure_73 (fun v8 M7 => ?_)
      refine x_goto C dX6_readMeasure_76 (tgt := 86) (by decide) ?_
      exact x_wk (L' := [some (.ref ((wC b).2.2.2 + 73)), none, some (.int x2), some (.int x3), none]) (And.intro rfl (And.intro rfl (And.intro rfl trivial))) (w_rr_readMeasure_J86 C p1  (x2) (x3) (v8) M7)
  · refine x_aloadn C dX6_readMeasure_54 rfl ?_
    refine x_iconst C dX6_readMeasure_55 (v := (1 : Int32)) (by decide) ?_
    refine x_sipush C dX6_readMeasure_56 (v := (999 : Int32)) (by decide) ?_
    refine x_Vm (st := []) C (c_rr_readNumber  ((1 : Int32)) ((999 : Int32)) M1) lk_X6_92 nC73 kC73 ⟨_, _, rfl⟩ rfl rfl (Nat.le_of_ble_eq_true rfl) (rmok_d (by decide) (by decide)) ⟨Nat.zero_le _, Nat.zero_le _⟩ dX6_readMeasure_59 (fun v10 M9 => ?_)
    refine x_goto C dX6_readMeasure_62 (tgt := 86) (by decide) ?_
    exact x_wk (L' := [some (.ref ((wC b).2.2.2 + 73)), none, some (.int x2), some (.int x3), none]) (And.intro rfl (And.intro rfl (And.intro rfl trivial))) (w_rr_readMeasure_J86 C p1  (x2) (x3) (v10) M9)
set_option maxHeartbeats 4000000 in
set_option maxRecDepth 20000 in
theorem w_rr_readMeasure_J25 {z : ZT} {l : Launch} {g : GG} {b : Nat} (C : Cx z l g (wC b) (rmd 3) cX6_readMeasure 5 RX6 (some .boolean)) (p1 : Int32)  (x2 : Int32) (s0 : Int32) (M : Mem) : XG z g (wC b) 5 (ZQ z g (wC b) finM) 0 0 25 [some (.ref ((wC b).2.2.2 + 73)), some (va_rf (ths g p1)), some (.int x2), none, none] [.int s0] M (rr_readMeasure_J25 p1 x2 s0 M) := by
  rw [rr_readMeasure_J25]
  refine x_istoren C dX6_readMeasure_25 (L' := [some (.ref ((wC b).2.2.2 + 73)), some (va_rf (ths g p1)), some (.int x2), some (.int s0), none]) (ltb rfl) rfl ?_
  refine x_iloadn C dX6_readMeasure_26 (x := x2) rfl ?_
  refine x_ifne C dX6_readMeasure_27 (tgt := 43) (by decide) (fun _h => ?_) (fun _h => ?_)
  · exact x_wk (L' := [some (.ref ((wC b).2.2.2 + 73)), none, some (.int x2), some (.int s0), none]) (And.intro rfl (And.intro rfl (And.intro rfl trivial))) (w_rr_readMeasure_J43 C p1  (x2) (s0)  M)
  · refine x_iloadn C dX6_readMeasure_30 (x := s0) rfl ?_
    refine x_ifne C dX6_readMeasure_31 (tgt := 43) (by decide) (fun _h => ?_) (fun _h => ?_)
    · exact x_wk (L' := [some (.ref ((wC b).2.2.2 + 73)), none, some (.int x2), some (.int s0), none]) (And.intro rfl (And.intro rfl (And.intro rfl trivial))) (w_rr_readMeasure_J43 C p1  (x2) (s0)  M)
    · refine x_qloadn C dX6_readMeasure_34 rfl ?_
      refine x_gsT C 10 (11 : Int32) ft_X6_133 (by decide) dX6_readMeasure_35 ?_
      refine x_acmpeq C dX6_readMeasure_38 (tgt := 43) (by decide) (fun _h => ?_) (fun _h => ?_)
      · exact x_wk (L' := [some (.ref ((wC b).2.2.2 + 73)), none, some (.int x2), some (.int s0), none]) (And.intro rfl (And.intro rfl (And.intro rfl trivial))) (w_rr_readMeasure_J43 C p1  (x2) (s0)  M)
      · refine x_iconst C dX6_readMeasure_41 (v := (0 : Int32)) (by decide) ?_
        exact x_zret C dX6_readMeasure_42 rfl rfl
set_option maxHeartbeats 4000000 in
set_option maxRecDepth 20000 in
theorem w_rr_readMeasure_J12 {z : ZT} {l : Launch} {g : GG} {b : Nat} (C : Cx z l g (wC b) (rmd 3) cX6_readMeasure 5 RX6 (some .boolean)) (p1 : Int32)  (s0 : Int32) (M : Mem) : XG z g (wC b) 5 (ZQ z g (wC b) finM) 0 0 12 [some (.ref ((wC b).2.2.2 + 73)), some (va_rf (ths g p1)), none, none, none] [.int s0] M (rr_readMeasure_J12 p1 s0 M) := by
  rw [rr_readMeasure_J12]
  refine x_istoren C dX6_readMeasure_12 (L' := [some (.ref ((wC b).2.2.2 + 73)), some (va_rf (ths g p1)), some (.int s0), none, none]) (ltb rfl) rfl ?_
  refine x_qloadn C dX6_readMeasure_13 rfl ?_
  refine x_gsT C 9 (10 : Int32) ft_X6_130 (by decide) dX6_readMeasure_14 ?_
  refine x_acmpne C dX6_readMeasure_17 (tgt := 24) (by decide) (fun _h => ?_) (fun _h => ?_)
  · refine x_iconst C dX6_readMeasure_24 (v := (0 : Int32)) (by decide) ?_
    exact x_wk (L' := [some (.ref ((wC b).2.2.2 + 73)), some (va_rf (ths g p1)), some (.int s0), none, none]) (And.intro rfl (And.intro rfl (And.intro rfl trivial))) (w_rr_readMeasure_J25 C p1  (s0) ((0 : Int32)) M)
  · refine x_iconst C dX6_readMeasure_20 (v := (1 : Int32)) (by decide) ?_
    refine x_goto C dX6_readMeasure_21 (tgt := 25) (by decide) ?_
    exact x_wk (L' := [some (.ref ((wC b).2.2.2 + 73)), some (va_rf (ths g p1)), some (.int s0), none, none]) (And.intro rfl (And.intro rfl (And.intro rfl trivial))) (w_rr_readMeasure_J25 C p1  (s0) ((1 : Int32)) M)
set_option maxHeartbeats 4000000 in
set_option maxRecDepth 20000 in
theorem c_rr_readMeasure {l : Launch} {g : GG} {b : Nat} (p1 : Int32) (M : Mem) : CT l g (wC b) (rmd 3) yX6_readMeasure cX6_readMeasure 5 (some .boolean) [.ref ((wC b).2.2.2 + 73), va_rf (ths g p1)] M finM (rr_readMeasure p1 M) := by
  refine CT.of rfl (Nat.le_of_ble_eq_true rfl) (catc rfl (catc (cat_rf _) cat0)) (fun z C => ?_)
  have C : Cx z l g (wC b) (rmd 3) cX6_readMeasure 5 RX6 (some .boolean) := C
  refine x_wk (L' := [some (.ref ((wC b).2.2.2 + 73)), some (va_rf (ths g p1)), none, none, none]) (And.intro rfl (And.intro rfl trivial)) ?_
  rw [rr_readMeasure]
  refine x_qloadn C dX6_readMeasure_0 rfl ?_
  refine x_gsT C 8 (9 : Int32) ft_X6_127 (by decide) dX6_readMeasure_1 ?_
  refine x_acmpne C dX6_readMeasure_4 (tgt := 11) (by decide) (fun _h => ?_) (fun _h => ?_)
  · refine x_iconst C dX6_readMeasure_11 (v := (0 : Int32)) (by decide) ?_
    exact x_wk (L' := [some (.ref ((wC b).2.2.2 + 73)), some (va_rf (ths g p1)), none, none, none]) (And.intro rfl (And.intro rfl trivial)) (w_rr_readMeasure_J12 C p1   ((0 : Int32)) M)
  · refine x_iconst C dX6_readMeasure_7 (v := (1 : Int32)) (by decide) ?_
    refine x_goto C dX6_readMeasure_8 (tgt := 12) (by decide) ?_
    exact x_wk (L' := [some (.ref ((wC b).2.2.2 + 73)), some (va_rf (ths g p1)), none, none, none]) (And.intro rfl (And.intro rfl trivial)) (w_rr_readMeasure_J12 C p1   ((1 : Int32)) M)
def rr_readLine (M : Mem) : Option (Int32 × Mem) := (tp_thing M).bind fun v1 => (rr_kindOf (v1) M).bind fun v2 => (if v2 = (-1 : Int32) then (if teq v1 (13 : Int32) = true then bnd2 (rr_readApart M) fun v10 M9 => chk (isB v10) (some (v10, M9)) else (if teq v1 (15 : Int32) = true then bnd2 (rr_readWith M) fun v8 M7 => chk (isB v8) (some (v8, M7)) else (if teq v1 (12 : Int32) = true then bnd2 (rr_readStream M) fun v6 M5 => chk (isB v6) (some (v6, M5)) else bnd2 (rr_readMeasure (v1) M) fun v4 M3 => chk (isB v4) (some (v4, M3))))) else bnd2 (rr_readBeing (v2) M) fun v12 M11 => chk (isB v12) (some (v12, M11)))
set_option maxHeartbeats 4000000 in
set_option maxRecDepth 20000 in
theorem c_rr_readLine {l : Launch} {g : GG} {b : Nat} (M : Mem) : CT l g (wC b) (rmd 5) yX6_readLine cX6_readLine 3 (some .boolean) [.ref ((wC b).2.2.2 + 73)] M finM (rr_readLine  M) := by
  refine CT.of rfl (Nat.le_of_ble_eq_true rfl) (catc rfl cat0) (fun z C => ?_)
  have C : Cx z l g (wC b) (rmd 5) cX6_readLine 3 RX6 (some .boolean) := C
  refine x_wk (L' := [some (.ref ((wC b).2.2.2 + 73)), none, none]) (And.intro rfl trivial) ?_
  rw [rr_readLine]
  refine x_aloadn C dX6_readLine_0 rfl ?_
  refine x_getR C fl_X6_9 cl_6 (1) nC73 kC73 fC73_0 dX6_readLine_1 ?_
  refine x_Vq (st := []) C (c_tp_thing   M) lk_X6_19 nC1 kC1 ⟨_, _, rfl⟩ rfl rfl (Nat.le_of_ble_eq_true rfl) (rmok_d (by decide) (by decide)) ⟨Nat.zero_le _, Nat.zero_le _⟩ dX6_readLine_4 (fun v1 => ?_)
  refine x_qstoren C dX6_readLine_7 (L' := [some (.ref ((wC b).2.2.2 + 73)), some (va_rf (ths g v1)), none]) (ltb rfl) rfl ?_
  refine x_qloadn C dX6_readLine_8 rfl ?_
  refine x_Si (st := []) C (c_rr_kindOf  (v1) M) lk_X6_42 rfl rfl (Nat.le_of_ble_eq_true rfl) (rmok_d (by decide) (by decide)) ⟨Nat.zero_le _, Nat.zero_le _⟩ dX6_readLine_9 (fun v2 => ?_)
  refine x_istoren C dX6_readLine_12 (L' := [some (.ref ((wC b).2.2.2 + 73)), some (va_rf (ths g v1)), some (.int v2)]) (ltb rfl) rfl ?_
  refine x_iloadn C dX6_readLine_13 (x := v2) rfl ?_
  refine x_iconst C dX6_readLine_14 (v := (-1 : Int32)) (by decide) ?_
  refine x_icmpeq C dX6_readLine_15 (tgt := 24) (by decide) (fun _h => ?_) (fun _h => ?_)
  · refine x_qloadn C dX6_readLine_24 rfl ?_
    refine x_gsT C 12 (13 : Int32) ft_X6_50 (by decide) dX6_readLine_25 ?_
    refine x_acmpne C dX6_readLine_28 (tgt := 36) (by decide) (fun _h => ?_) (fun _h => ?_)
    · refine x_qloadn C dX6_readLine_36 rfl ?_
      refine x_gsT C 14 (15 : Int32) ft_X6_56 (by decide) dX6_readLine_37 ?_
      refine x_acmpne C dX6_readLine_40 (tgt := 48) (by decide) (fun _h => ?_) (fun _h => ?_)
      · refine x_qloadn C dX6_readLine_48 rfl ?_
        refine x_gsT C 11 (12 : Int32) ft_X6_62 (by decide) dX6_readLine_49 ?_
        refine x_acmpne C dX6_readLine_52 (tgt := 60) (by decide) (fun _h => ?_) (fun _h => ?_)
        · refine x_aloadn C dX6_readLine_60 rfl ?_
          refine x_qloadn C dX6_readLine_61 rfl ?_
          refine x_Vm (st := []) C (c_rr_readMeasure  (v1) M) lk_X6_68 nC73 kC73 ⟨_, _, rfl⟩ rfl rfl (Nat.le_of_ble_eq_true rfl) (rmok_d (by decide) (by decide)) ⟨Nat.zero_le _, Nat.zero_le _⟩ dX6_readLine_62 (fun v4 M3 => ?_)
          exact x_zretc C dX6_readLine_65 rfl
        · refine x_aloadn C dX6_readLine_55 rfl ?_
          refine x_Vm (st := []) C (c_rr_readStream   M) lk_X6_65 nC73 kC73 ⟨_, _, rfl⟩ rfl rfl (Nat.le_of_ble_eq_true rfl) (rmok_d (by decide) (by decide)) ⟨Nat.zero_le _, Nat.zero_le _⟩ dX6_readLine_56 (fun v6 M5 => ?_)
          exact x_zretc C dX6_readLine_59 rfl
      · refine x_aloadn C dX6_readLine_43 rfl ?_
        refine x_Vm (st := []) C (c_rr_readWith   M) lk_X6_59 nC73 kC73 ⟨_, _, rfl⟩ rfl rfl (Nat.le_of_ble_eq_true rfl) (rmok_d (by decide) (by decide)) ⟨Nat.zero_le _, Nat.zero_le _⟩ dX6_readLine_44 (fun v8 M7 => ?_)
        exact x_zretc C dX6_readLine_47 rfl
    · refine x_aloadn C dX6_readLine_31 rfl ?_
      refine x_Vm (st := []) C (c_rr_readApart   M) lk_X6_53 nC73 kC73 ⟨_, _, rfl⟩ rfl rfl (Nat.le_of_ble_eq_true rfl) (rmok_d (by decide) (by decide)) ⟨Nat.zero_le _, Nat.zero_le _⟩ dX6_readLine_32 (fun v10 M9 => ?_)
      exact x_zretc C dX6_readLine_35 rfl
  · refine x_aloadn C dX6_readLine_18 rfl ?_
    refine x_iloadn C dX6_readLine_19 (x := v2) rfl ?_
    refine x_Vm (st := []) C (c_rr_readBeing  (v2) M) lk_X6_46 nC73 kC73 ⟨_, _, rfl⟩ rfl rfl (Nat.le_of_ble_eq_true rfl) (rmok_d (by decide) (by decide)) ⟨Nat.zero_le _, Nat.zero_le _⟩ dX6_readLine_20 (fun v12 M11 => ?_)
    exact x_zretc C dX6_readLine_23 rfl
def rr_readText_L17  (K : Mem → Option (Int32 × Mem)) : Nat → Int32 → Mem → Option (Int32 × Mem)
  | 0, _, _ => none
  | fu + 1, x1, M => (if x1 < (14 : Int32) then bnd2 (rr_readLine M) fun v3 M2 => (if v3 = 0 then some ((0 : Int32), M2) else (tp_thing M2).bind fun v4 => (if teq v4 (1 : Int32) = true then some ((1 : Int32), M2) else bnd2 (tp_take ((24 : Int32)) M2) fun v6 M5 => (if v6 = 0 then some ((0 : Int32), M5) else rr_readText_L17 K fu ((x1 + (1 : Int32))) (M5)))) else K (M))
def rr_readText (M : Mem) : Option (Int32 × Mem) := (tp_thing M).bind fun v1 => (if teq v1 (1 : Int32) = true then some ((1 : Int32), M) else rr_readText_L17 (fun M8 => some ((0 : Int32), M8)) FU ((0 : Int32)) M)
set_option maxHeartbeats 4000000 in
set_option maxRecDepth 20000 in
theorem w_rr_readText_L17 {z : ZT} {l : Launch} {g : GG} {b : Nat} (C : Cx z l g (wC b) (rmd 6) cX6_readText 2 RX6 (some .boolean))  {K : Mem → Option (Int32 × Mem)} (hK : ∀ (M : Mem) , XG z g (wC b) 2 (ZQ z g (wC b) finM) 0 0 68 [none, none] [] M (K M)) : ∀ (fu : Nat) (x1 : Int32) (M : Mem), XG z g (wC b) 2 (ZQ z g (wC b) finM) 0 0 17 [some (.ref ((wC b).2.2.2 + 73)), some (.int x1)] [] M (rr_readText_L17 K fu x1 M) := by
  intro fu
  induction fu with
  | zero => intro x1 M; exact x_none
  | succ fu ih =>
    intro x1 M
    rw [rr_readText_L17]
    refine x_iloadn C dX6_readText_17 (x := x1) rfl ?_
    refine x_bipush C dX6_readText_18 (v := (14 : Int32)) (by decide) ?_
    refine x_icmpge C dX6_readText_20 (tgt := 68) (by decide) (fun _h => ?_) (fun _h => ?_)
    · exact x_wk (L' := [none, none]) (trivial) (hK (M))
    · refine x_aloadn C dX6_readText_23 rfl ?_
      refine x_Vm (st := []) C (c_rr_readLine   M) lk_X6_31 nC73 kC73 ⟨_, _, rfl⟩ rfl rfl (Nat.le_of_ble_eq_true rfl) (rmok_d (by decide) (by decide)) ⟨Nat.zero_le _, Nat.zero_le _⟩ dX6_readText_24 (fun v3 M2 => ?_)
      refine x_ifne C dX6_readText_27 (tgt := 32) (by decide) (fun _h => ?_) (fun _h => ?_)
      · refine x_aloadn C dX6_readText_32 rfl ?_
        refine x_getR C fl_X6_9 cl_6 (1) nC73 kC73 fC73_0 dX6_readText_33 ?_
        refine x_Vq (st := []) C (c_tp_thing   M2) lk_X6_19 nC1 kC1 ⟨_, _, rfl⟩ rfl rfl (Nat.le_of_ble_eq_true rfl) (rmok_d (by decide) (by decide)) ⟨Nat.zero_le _, Nat.zero_le _⟩ dX6_readText_36 (fun v4 => ?_)
        refine x_gsT C 0 (1 : Int32) ft_X6_25 (by decide) dX6_readText_39 ?_
        refine x_acmpne C dX6_readText_42 (tgt := 47) (by decide) (fun _h => ?_) (fun _h => ?_)
        · refine x_aloadn C dX6_readText_47 rfl ?_
          refine x_getR C fl_X6_9 cl_6 (1) nC73 kC73 fC73_0 dX6_readText_48 ?_
          refine x_gsT C 23 (24 : Int32) ft_X6_35 (by decide) dX6_readText_51 ?_
          refine x_Vm (st := []) C (c_tp_take  ((24 : Int32)) M2) lk_X6_38 nC1 kC1 ⟨_, _, rfl⟩ rfl rfl (Nat.le_of_ble_eq_true rfl) (rmok_d (by decide) (by decide)) ⟨Nat.zero_le _, Nat.zero_le _⟩ dX6_readText_54 (fun v6 M5 => ?_)
          refine x_ifne C dX6_readText_57 (tgt := 62) (by decide) (fun _h => ?_) (fun _h => ?_)
          · refine x_iinc C dX6_readText_62 (v := (x1 + (1 : Int32))) rfl rfl (L' := [some (.ref ((wC b).2.2.2 + 73)), some (.int (x1 + (1 : Int32)))]) rfl ?_
            refine x_goto C dX6_readText_65 (tgt := 17) (by decide) ?_
            exact x_wk (L' := [some (.ref ((wC b).2.2.2 + 73)), some (.int (x1 + (1 : Int32)))]) (And.intro rfl (And.intro rfl trivial)) (ih ((x1 + (1 : Int32))) (M5))
          · refine x_iconst C dX6_readText_60 (v := (0 : Int32)) (by decide) ?_
            exact x_zret C dX6_readText_61 rfl rfl
        · refine x_iconst C dX6_readText_45 (v := (1 : Int32)) (by decide) ?_
          exact x_zret C dX6_readText_46 rfl rfl
      · refine x_iconst C dX6_readText_30 (v := (0 : Int32)) (by decide) ?_
        exact x_zret C dX6_readText_31 rfl rfl
set_option maxHeartbeats 4000000 in
set_option maxRecDepth 20000 in
theorem c_rr_readText {l : Launch} {g : GG} {b : Nat} (M : Mem) : CT l g (wC b) (rmd 6) yX6_readText cX6_readText 2 (some .boolean) [.ref ((wC b).2.2.2 + 73)] M finM (rr_readText  M) := by
  refine CT.of rfl (Nat.le_of_ble_eq_true rfl) (catc rfl cat0) (fun z C => ?_)
  have C : Cx z l g (wC b) (rmd 6) cX6_readText 2 RX6 (some .boolean) := C
  refine x_wk (L' := [some (.ref ((wC b).2.2.2 + 73)), none]) (And.intro rfl trivial) ?_
  rw [rr_readText]
  refine x_aloadn C dX6_readText_0 rfl ?_
  refine x_getR C fl_X6_9 cl_6 (1) nC73 kC73 fC73_0 dX6_readText_1 ?_
  refine x_Vq (st := []) C (c_tp_thing   M) lk_X6_19 nC1 kC1 ⟨_, _, rfl⟩ rfl rfl (Nat.le_of_ble_eq_true rfl) (rmok_d (by decide) (by decide)) ⟨Nat.zero_le _, Nat.zero_le _⟩ dX6_readText_4 (fun v1 => ?_)
  refine x_gsT C 0 (1 : Int32) ft_X6_25 (by decide) dX6_readText_7 ?_
  refine x_acmpne C dX6_readText_10 (tgt := 15) (by decide) (fun _h => ?_) (fun _h => ?_)
  · refine x_iconst C dX6_readText_15 (v := (0 : Int32)) (by decide) ?_
    refine x_istoren C dX6_readText_16 (L' := [some (.ref ((wC b).2.2.2 + 73)), some (.int (0 : Int32))]) (ltb rfl) rfl ?_
    refine x_wk (L' := [some (.ref ((wC b).2.2.2 + 73)), some (.int (0 : Int32))]) (And.intro rfl (And.intro rfl trivial)) (w_rr_readText_L17 C    (fun M8 => ?_) FU ((0 : Int32)) M)
    refine x_iconst C dX6_readText_68 (v := (0 : Int32)) (by decide) ?_
    exact x_zret C dX6_readText_69 rfl rfl
  · refine x_iconst C dX6_readText_13 (v := (1 : Int32)) (by decide) ?_
    exact x_zret C dX6_readText_14 rfl rfl
def ru_copyFrom (R : Nat) (Q : Nat) (M : Mem) : Option Mem := lt1 (wr M R 0 (M Q 0)) fun M1 => lt1 (wr M1 R 4 (M1 Q 4)) fun M2 => lt1 (cpy M2 (Q + 1) (R + 1) 12) fun M3 => lt1 (cpy M3 (Q + 2) (R + 2) 12) fun M4 => lt1 (cpy M4 (Q + 3) (R + 3) 400) fun M5 => some M5
set_option maxHeartbeats 4000000 in
set_option maxRecDepth 20000 in
theorem c_ru_copyFrom {l : Launch} {g : GG} {b : Nat} {R : Nat} {Q : Nat} (hR : isRul R) (hQ : isRul Q) (M : Mem) : CT l g (wC b) (rmd 1) yX7_copyFrom cX7_copyFrom 2 none [.ref ((wC b).2.2.2 + R), .ref ((wC b).2.2.2 + Q)] M finV (ru_copyFrom R Q M) := by
  refine CT.of rfl (Nat.le_of_ble_eq_true rfl) (catc rfl (catc rfl cat0)) (fun z C => ?_)
  have C : Cx z l g (wC b) (rmd 1) cX7_copyFrom 2 RX7 none := C
  refine x_wk (L' := [some (.ref ((wC b).2.2.2 + R)), some (.ref ((wC b).2.2.2 + Q))]) (And.intro rfl (And.intro rfl trivial)) ?_
  rw [ru_copyFrom]
  refine x_aloadn C dX7_copyFrom_0 rfl ?_
  refine x_aloadn C dX7_copyFrom_1 rfl ?_
  refine x_getI C fl_X7_9 cl_7 (nisRul_0 hQ) (kisRul_0 hQ) (fisRul_0 hQ) dX7_copyFrom_2 ?_
  refine x_putI C fl_X7_9 cl_7 fint_7_0 (nisRul_0 hR) (kisRul_0 hR) (fisRul_0 hR) dX7_copyFrom_5 ?_
  refine x_ltM (fun M1 => ?_)
  refine x_aloadn C dX7_copyFrom_8 rfl ?_
  refine x_aloadn C dX7_copyFrom_9 rfl ?_
  refine x_getI C fl_X7_25 cl_7 (nisRul_0 hQ) (kisRul_0 hQ) (fisRul_4 hQ) dX7_copyFrom_10 ?_
  refine x_putI C fl_X7_25 cl_7 fint_7_4 (nisRul_0 hR) (kisRul_0 hR) (fisRul_4 hR) dX7_copyFrom_13 ?_
  refine x_ltM (fun M2 => ?_)
  refine x_aloadn C dX7_copyFrom_16 rfl ?_
  refine x_getR C fl_X7_15 cl_7 (Q + 1) (nisRul_0 hQ) (kisRul_0 hQ) (fisRul_1 hQ) dX7_copyFrom_17 ?_
  refine x_iconst C dX7_copyFrom_20 (v := (0 : Int32)) (by decide) ?_
  refine x_aloadn C dX7_copyFrom_21 rfl ?_
  refine x_getR C fl_X7_15 cl_7 (R + 1) (nisRul_0 hR) (kisRul_0 hR) (fisRul_1 hR) dX7_copyFrom_22 ?_
  refine x_iconst C dX7_copyFrom_25 (v := (0 : Int32)) (by decide) ?_
  refine x_bipush C dX7_copyFrom_26 (v := (12 : Int32)) (by decide) ?_
  refine x_copy C ly_X7_43 (Nat.le_of_ble_eq_true rfl) ⟨by decide, by decide⟩ (nisRul_1 hQ) (kisRul_1 hQ) (nisRul_1 hR) (kisRul_1 hR) (by decide) (mn := 12) (by decide) (by decide) (by decide) dX7_copyFrom_28 ?_
  refine x_ltM (fun M3 => ?_)
  refine x_aloadn C dX7_copyFrom_31 rfl ?_
  refine x_getR C fl_X7_19 cl_7 (Q + 2) (nisRul_0 hQ) (kisRul_0 hQ) (fisRul_2 hQ) dX7_copyFrom_32 ?_
  refine x_iconst C dX7_copyFrom_35 (v := (0 : Int32)) (by decide) ?_
  refine x_aloadn C dX7_copyFrom_36 rfl ?_
  refine x_getR C fl_X7_19 cl_7 (R + 2) (nisRul_0 hR) (kisRul_0 hR) (fisRul_2 hR) dX7_copyFrom_37 ?_
  refine x_iconst C dX7_copyFrom_40 (v := (0 : Int32)) (by decide) ?_
  refine x_bipush C dX7_copyFrom_41 (v := (12 : Int32)) (by decide) ?_
  refine x_copy C ly_X7_43 (Nat.le_of_ble_eq_true rfl) ⟨by decide, by decide⟩ (nisRul_2 hQ) (kisRul_2 hQ) (nisRul_2 hR) (kisRul_2 hR) (by decide) (mn := 12) (by decide) (by decide) (by decide) dX7_copyFrom_43 ?_
  refine x_ltM (fun M4 => ?_)
  refine x_aloadn C dX7_copyFrom_46 rfl ?_
  refine x_getR C fl_X7_22 cl_7 (Q + 3) (nisRul_0 hQ) (kisRul_0 hQ) (fisRul_3 hQ) dX7_copyFrom_47 ?_
  refine x_iconst C dX7_copyFrom_50 (v := (0 : Int32)) (by decide) ?_
  refine x_aloadn C dX7_copyFrom_51 rfl ?_
  refine x_getR C fl_X7_22 cl_7 (R + 3) (nisRul_0 hR) (kisRul_0 hR) (fisRul_3 hR) dX7_copyFrom_52 ?_
  refine x_iconst C dX7_copyFrom_55 (v := (0 : Int32)) (by decide) ?_
  refine x_sipush C dX7_copyFrom_56 (v := (400 : Int32)) (by decide) ?_
  refine x_copy C ly_X7_43 (Nat.le_of_ble_eq_true rfl) ⟨by decide, by decide⟩ (nisRul_3 hQ) (kisRul_3 hQ) (nisRul_3 hR) (kisRul_3 hR) (by decide) (mn := 400) (by decide) (by decide) (by decide) dX7_copyFrom_59 ?_
  refine x_ltM (fun M5 => ?_)
  exact x_vret C dX7_copyFrom_62 rfl
def ru_begin (R : Nat) (M : Mem) : Option Mem := lt1 (wr M R 0 (0 : Int32)) fun M1 => lt1 (wr M1 R 4 (0 : Int32)) fun M2 => some M2
set_option maxHeartbeats 4000000 in
set_option maxRecDepth 20000 in
theorem c_ru_begin {l : Launch} {g : GG} {b : Nat} {R : Nat} (hR : isRul R) (M : Mem) : CT l g (wC b) (rmd 1) yX7_begin cX7_begin 1 none [.ref ((wC b).2.2.2 + R)] M finV (ru_begin R M) := by
  refine CT.of rfl (Nat.le_of_ble_eq_true rfl) (catc rfl cat0) (fun z C => ?_)
  have C : Cx z l g (wC b) (rmd 1) cX7_begin 1 RX7 none := C
  refine x_wk (L' := [some (.ref ((wC b).2.2.2 + R))]) (And.intro rfl trivial) ?_
  rw [ru_begin]
  refine x_aloadn C dX7_begin_0 rfl ?_
  refine x_iconst C dX7_begin_1 (v := (0 : Int32)) (by decide) ?_
  refine x_putI C fl_X7_9 cl_7 fint_7_0 (nisRul_0 hR) (kisRul_0 hR) (fisRul_0 hR) dX7_begin_2 ?_
  refine x_ltM (fun M1 => ?_)
  refine x_aloadn C dX7_begin_5 rfl ?_
  refine x_iconst C dX7_begin_6 (v := (0 : Int32)) (by decide) ?_
  refine x_putI C fl_X7_25 cl_7 fint_7_4 (nisRul_0 hR) (kisRul_0 hR) (fisRul_4 hR) dX7_begin_7 ?_
  refine x_ltM (fun M2 => ?_)
  exact x_vret C dX7_begin_10 rfl
def ru_putStep (R : Nat) (p1 : Int32) (M : Mem) : Option Mem := (if (M R 4) < (400 : Int32) then chk (inb (M R 4) 400) (lt1 (wr M (R + 3) (M R 4).toNatClampNeg p1) fun M1 => lt1 (wr M1 R 4 ((M1 R 4) + (1 : Int32))) fun M2 => some M2) else some M)
set_option maxHeartbeats 4000000 in
set_option maxRecDepth 20000 in
theorem c_ru_putStep {l : Launch} {g : GG} {b : Nat} {R : Nat} (hR : isRul R) (p1 : Int32) (M : Mem) : CT l g (wC b) (rmd 1) yX7_putStep cX7_putStep 2 none [.ref ((wC b).2.2.2 + R), .int p1] M finV (ru_putStep R p1 M) := by
  refine CT.of rfl (Nat.le_of_ble_eq_true rfl) (catc rfl (catc rfl cat0)) (fun z C => ?_)
  have C : Cx z l g (wC b) (rmd 1) cX7_putStep 2 RX7 none := C
  refine x_wk (L' := [some (.ref ((wC b).2.2.2 + R)), some (.int p1)]) (And.intro rfl (And.intro rfl trivial)) ?_
  rw [ru_putStep]
  refine x_aloadn C dX7_putStep_0 rfl ?_
  refine x_getI C fl_X7_25 cl_7 (nisRul_0 hR) (kisRul_0 hR) (fisRul_4 hR) dX7_putStep_1 ?_
  refine x_sipush C dX7_putStep_4 (v := (400 : Int32)) (by decide) ?_
  refine x_icmpge C dX7_putStep_7 (tgt := 30) (by decide) (fun _h => ?_) (fun _h => ?_)
  · exact x_vret C dX7_putStep_30 rfl
  · refine x_aloadn C dX7_putStep_10 rfl ?_
    refine x_getR C fl_X7_22 cl_7 (R + 3) (nisRul_0 hR) (kisRul_0 hR) (fisRul_3 hR) dX7_putStep_11 ?_
    refine x_aloadn C dX7_putStep_14 rfl ?_
    refine x_getI C fl_X7_25 cl_7 (nisRul_0 hR) (kisRul_0 hR) (fisRul_4 hR) dX7_putStep_15 ?_
    refine x_iloadn C dX7_putStep_18 (x := p1) rfl ?_
    refine x_iast C (nisRul_3 hR) (kisRul_3 hR) dX7_putStep_19 ?_
    refine x_ltM (fun M1 => ?_)
    refine x_aloadn C dX7_putStep_20 rfl ?_
    refine x_dup C dX7_putStep_21 rfl ?_
    refine x_getI C fl_X7_25 cl_7 (nisRul_0 hR) (kisRul_0 hR) (fisRul_4 hR) dX7_putStep_22 ?_
    refine x_iconst C dX7_putStep_25 (v := (1 : Int32)) (by decide) ?_
    refine x_iadd C dX7_putStep_26 ?_
    refine x_putI C fl_X7_25 cl_7 fint_7_4 (nisRul_0 hR) (kisRul_0 hR) (fisRul_4 hR) dX7_putStep_27 ?_
    refine x_ltM (fun M2 => ?_)
    exact x_vret C dX7_putStep_30 rfl
def ru_endLine (R : Nat) (p1 : Int32) (M : Mem) : Option Mem := (if (M R 0) < 0 then some M else (if (M R 0) < (12 : Int32) then chk (inb (M R 0) 12) (lt1 (wr M (R + 1) (M R 0).toNatClampNeg p1) fun M1 => chk (inb (M1 R 0) 12) (lt1 (wr M1 (R + 2) (M1 R 0).toNatClampNeg (M1 R 4)) fun M2 => lt1 (wr M2 R 0 ((M2 R 0) + (1 : Int32))) fun M3 => some M3)) else some M))
set_option maxHeartbeats 4000000 in
set_option maxRecDepth 20000 in
theorem c_ru_endLine {l : Launch} {g : GG} {b : Nat} {R : Nat} (hR : isRul R) (p1 : Int32) (M : Mem) : CT l g (wC b) (rmd 1) yX7_endLine cX7_endLine 2 none [.ref ((wC b).2.2.2 + R), .int p1] M finV (ru_endLine R p1 M) := by
  refine CT.of rfl (Nat.le_of_ble_eq_true rfl) (catc rfl (catc rfl cat0)) (fun z C => ?_)
  have C : Cx z l g (wC b) (rmd 1) cX7_endLine 2 RX7 none := C
  refine x_wk (L' := [some (.ref ((wC b).2.2.2 + R)), some (.int p1)]) (And.intro rfl (And.intro rfl trivial)) ?_
  rw [ru_endLine]
  refine x_aloadn C dX7_endLine_0 rfl ?_
  refine x_getI C fl_X7_9 cl_7 (nisRul_0 hR) (kisRul_0 hR) (fisRul_0 hR) dX7_endLine_1 ?_
  refine x_iflt C dX7_endLine_4 (tgt := 49) (by decide) (fun _h => ?_) (fun _h => ?_)
  · exact x_vret C dX7_endLine_49 rfl
  · refine x_aloadn C dX7_endLine_7 rfl ?_
    refine x_getI C fl_X7_9 cl_7 (nisRul_0 hR) (kisRul_0 hR) (fisRul_0 hR) dX7_endLine_8 ?_
    refine x_bipush C dX7_endLine_11 (v := (12 : Int32)) (by decide) ?_
    refine x_icmpge C dX7_endLine_13 (tgt := 49) (by decide) (fun _h => ?_) (fun _h => ?_)
    · exact x_vret C dX7_endLine_49 rfl
    · refine x_aloadn C dX7_endLine_16 rfl ?_
      refine x_getR C fl_X7_15 cl_7 (R + 1) (nisRul_0 hR) (kisRul_0 hR) (fisRul_1 hR) dX7_endLine_17 ?_
      refine x_aloadn C dX7_endLine_20 rfl ?_
      refine x_getI C fl_X7_9 cl_7 (nisRul_0 hR) (kisRul_0 hR) (fisRul_0 hR) dX7_endLine_21 ?_
      refine x_iloadn C dX7_endLine_24 (x := p1) rfl ?_
      refine x_iast C (nisRul_1 hR) (kisRul_1 hR) dX7_endLine_25 ?_
      refine x_ltM (fun M1 => ?_)
      refine x_aloadn C dX7_endLine_26 rfl ?_
      refine x_getR C fl_X7_19 cl_7 (R + 2) (nisRul_0 hR) (kisRul_0 hR) (fisRul_2 hR) dX7_endLine_27 ?_
      refine x_aloadn C dX7_endLine_30 rfl ?_
      refine x_getI C fl_X7_9 cl_7 (nisRul_0 hR) (kisRul_0 hR) (fisRul_0 hR) dX7_endLine_31 ?_
      refine x_aloadn C dX7_endLine_34 rfl ?_
      refine x_getI C fl_X7_25 cl_7 (nisRul_0 hR) (kisRul_0 hR) (fisRul_4 hR) dX7_endLine_35 ?_
      refine x_iast C (nisRul_2 hR) (kisRul_2 hR) dX7_endLine_38 ?_
      refine x_ltM (fun M2 => ?_)
      refine x_aloadn C dX7_endLine_39 rfl ?_
      refine x_dup C dX7_endLine_40 rfl ?_
      refine x_getI C fl_X7_9 cl_7 (nisRul_0 hR) (kisRul_0 hR) (fisRul_0 hR) dX7_endLine_41 ?_
      refine x_iconst C dX7_endLine_44 (v := (1 : Int32)) (by decide) ?_
      refine x_iadd C dX7_endLine_45 ?_
      refine x_putI C fl_X7_9 cl_7 fint_7_0 (nisRul_0 hR) (kisRul_0 hR) (fisRul_0 hR) dX7_endLine_46 ?_
      refine x_ltM (fun M3 => ?_)
      exact x_vret C dX7_endLine_49 rfl
def ru_setHour (R : Nat) (p1 : Int32) (p2 : Int32) (M : Mem) : Option Mem := lt1 (wr M R 8 p1) fun M1 => lt1 (wr M1 R 9 p2) fun M2 => some M2
set_option maxHeartbeats 4000000 in
set_option maxRecDepth 20000 in
theorem c_ru_setHour {l : Launch} {g : GG} {b : Nat} {R : Nat} (hR : isRul R) (p1 : Int32) (p2 : Int32) (M : Mem) : CT l g (wC b) (rmd 1) yX7_setHour cX7_setHour 3 none [.ref ((wC b).2.2.2 + R), .int p1, .int p2] M finV (ru_setHour R p1 p2 M) := by
  refine CT.of rfl (Nat.le_of_ble_eq_true rfl) (catc rfl (catc rfl (catc rfl cat0))) (fun z C => ?_)
  have C : Cx z l g (wC b) (rmd 1) cX7_setHour 3 RX7 none := C
  refine x_wk (L' := [some (.ref ((wC b).2.2.2 + R)), some (.int p1), some (.int p2)]) (And.intro rfl (And.intro rfl (And.intro rfl trivial))) ?_
  rw [ru_setHour]
  refine x_aloadn C dX7_setHour_0 rfl ?_
  refine x_iloadn C dX7_setHour_1 (x := p1) rfl ?_
  refine x_putI C fl_X7_37 cl_7 fint_7_8 (nisRul_0 hR) (kisRul_0 hR) (fisRul_8 hR) dX7_setHour_2 ?_
  refine x_ltM (fun M1 => ?_)
  refine x_aloadn C dX7_setHour_5 rfl ?_
  refine x_iloadn C dX7_setHour_6 (x := p2) rfl ?_
  refine x_putI C fl_X7_40 cl_7 fint_7_9 (nisRul_0 hR) (kisRul_0 hR) (fisRul_9 hR) dX7_setHour_7 ?_
  refine x_ltM (fun M2 => ?_)
  exact x_vret C dX7_setHour_10 rfl
def ru_partOf (R : Nat) (p1 : Int32) (M : Mem) : Option Int32 := (if p1 = (-4 : Int32) then some ((M R 9)) else (if p1 = (-3 : Int32) then some ((M R 8)) else (if p1 = (-2 : Int32) then some ((M R 7)) else (if p1 = (-1 : Int32) then some ((M R 6)) else some (p1)))))
set_option maxHeartbeats 4000000 in
set_option maxRecDepth 20000 in
theorem c_ru_partOf {l : Launch} {g : GG} {b : Nat} {R : Nat} (hR : isRul R) (p1 : Int32) (M : Mem) : CT l g (wC b) (rmd 1) yX7_partOf cX7_partOf 2 (some .int) [.ref ((wC b).2.2.2 + R), .int p1] M (finI M) (ru_partOf R p1 M) := by
  refine CT.of rfl (Nat.le_of_ble_eq_true rfl) (catc rfl (catc rfl cat0)) (fun z C => ?_)
  have C : Cx z l g (wC b) (rmd 1) cX7_partOf 2 RX7 (some .int) := C
  refine x_wk (L' := [some (.ref ((wC b).2.2.2 + R)), some (.int p1)]) (And.intro rfl (And.intro rfl trivial)) ?_
  rw [ru_partOf]
  refine x_iloadn C dX7_partOf_0 (x := p1) rfl ?_
  refine x_ite (fun h9 => ?_) (fun h_m4 => ?_)
  · refine x_tsIn C dX7_partOf_1 h9 (by decide) (by decide) rfl (tgt := 47) (by decide) ?_
    refine x_aloadn C dX7_partOf_47 rfl ?_
    refine x_getI C fl_X7_40 cl_7 (nisRul_0 hR) (kisRul_0 hR) (fisRul_9 hR) dX7_partOf_48 ?_
    exact x_iret C dX7_partOf_51 rfl
  · refine x_ite (fun h9 => ?_) (fun h_m3 => ?_)
    · refine x_tsIn C dX7_partOf_1 h9 (by decide) (by decide) rfl (tgt := 42) (by decide) ?_
      refine x_aloadn C dX7_partOf_42 rfl ?_
      refine x_getI C fl_X7_37 cl_7 (nisRul_0 hR) (kisRul_0 hR) (fisRul_8 hR) dX7_partOf_43 ?_
      exact x_iret C dX7_partOf_46 rfl
    · refine x_ite (fun h9 => ?_) (fun h_m2 => ?_)
      · refine x_tsIn C dX7_partOf_1 h9 (by decide) (by decide) rfl (tgt := 37) (by decide) ?_
        refine x_aloadn C dX7_partOf_37 rfl ?_
        refine x_getI C fl_X7_34 cl_7 (nisRul_0 hR) (kisRul_0 hR) (fisRul_7 hR) dX7_partOf_38 ?_
        exact x_iret C dX7_partOf_41 rfl
      · refine x_ite (fun h9 => ?_) (fun h_m1 => ?_)
        · refine x_tsIn C dX7_partOf_1 h9 (by decide) (by decide) rfl (tgt := 32) (by decide) ?_
          refine x_aloadn C dX7_partOf_32 rfl ?_
          refine x_getI C fl_X7_31 cl_7 (nisRul_0 hR) (kisRul_0 hR) (fisRul_6 hR) dX7_partOf_33 ?_
          exact x_iret C dX7_partOf_36 rfl
        · refine x_tsOut C dX7_partOf_1 (ts_out (fun j h1 h2 => ?_)) (tgt := 52) (by decide) ?_
          · have hj : j = -4 ∨ j = -3 ∨ j = -2 ∨ j = -1 := by omega
            rcases hj with rfl | rfl | rfl | rfl
            · exact h_m4
            · exact h_m3
            · exact h_m2
            · exact h_m1
          · refine x_iloadn C dX7_partOf_52 (x := p1) rfl ?_
            exact x_iret C dX7_partOf_53 rfl
def ru_join (p1 : Int32) (p2 : Int32) (p3 : Int32) (M : Mem) : Option Int32 := (if p1 = (-9 : Int32) then some ((p2 &&& p3)) else (if p1 = (-8 : Int32) then (if p3 < p2 then some ((1 : Int32)) else some ((0 : Int32))) else (if p1 = (-7 : Int32) then (if p2 < p3 then some ((1 : Int32)) else some ((0 : Int32))) else (if p1 = (-6 : Int32) then some ((p2 + p3)) else some ((p2 ||| p3))))))
set_option maxHeartbeats 4000000 in
set_option maxRecDepth 20000 in
theorem c_ru_join {l : Launch} {g : GG} {b : Nat} (p1 : Int32) (p2 : Int32) (p3 : Int32) (M : Mem) : CT l g (wC b) (rmd 1) yX7_join cX7_join 3 (some .int) [.int p1, .int p2, .int p3] M (finI M) (ru_join p1 p2 p3 M) := by
  refine CT.of rfl (Nat.le_of_ble_eq_true rfl) (catc rfl (catc rfl (catc rfl cat0))) (fun z C => ?_)
  have C : Cx z l g (wC b) (rmd 1) cX7_join 3 RX7 (some .int) := C
  refine x_wk (L' := [some (.int p1), some (.int p2), some (.int p3)]) (And.intro rfl (And.intro rfl (And.intro rfl trivial))) ?_
  rw [ru_join]
  refine x_iloadn C dX7_join_0 (x := p1) rfl ?_
  refine x_ite (fun h9 => ?_) (fun h_m9 => ?_)
  · refine x_tsIn C dX7_join_1 h9 (by decide) (by decide) rfl (tgt := 58) (by decide) ?_
    refine x_iloadn C dX7_join_58 (x := p2) rfl ?_
    refine x_iloadn C dX7_join_59 (x := p3) rfl ?_
    refine x_iand C dX7_join_60 ?_
    exact x_iret C dX7_join_61 rfl
  · refine x_ite (fun h9 => ?_) (fun h_m8 => ?_)
    · refine x_tsIn C dX7_join_1 h9 (by decide) (by decide) rfl (tgt := 47) (by decide) ?_
      refine x_iloadn C dX7_join_47 (x := p2) rfl ?_
      refine x_iloadn C dX7_join_48 (x := p3) rfl ?_
      refine x_icmple C dX7_join_49 (tgt := 56) (by decide) (fun _h => ?_) (fun _h => ?_)
      · refine x_iconst C dX7_join_56 (v := (0 : Int32)) (by decide) ?_
        exact x_iret C dX7_join_57 rfl
      · refine x_iconst C dX7_join_52 (v := (1 : Int32)) (by decide) ?_
        refine x_goto C dX7_join_53 (tgt := 57) (by decide) ?_
        exact x_iret C dX7_join_57 rfl
    · refine x_ite (fun h9 => ?_) (fun h_m7 => ?_)
      · refine x_tsIn C dX7_join_1 h9 (by decide) (by decide) rfl (tgt := 36) (by decide) ?_
        refine x_iloadn C dX7_join_36 (x := p2) rfl ?_
        refine x_iloadn C dX7_join_37 (x := p3) rfl ?_
        refine x_icmpge C dX7_join_38 (tgt := 45) (by decide) (fun _h => ?_) (fun _h => ?_)
        · refine x_iconst C dX7_join_45 (v := (0 : Int32)) (by decide) ?_
          exact x_iret C dX7_join_46 rfl
        · refine x_iconst C dX7_join_41 (v := (1 : Int32)) (by decide) ?_
          refine x_goto C dX7_join_42 (tgt := 46) (by decide) ?_
          exact x_iret C dX7_join_46 rfl
      · refine x_ite (fun h9 => ?_) (fun h_m6 => ?_)
        · refine x_tsIn C dX7_join_1 h9 (by decide) (by decide) rfl (tgt := 32) (by decide) ?_
          refine x_iloadn C dX7_join_32 (x := p2) rfl ?_
          refine x_iloadn C dX7_join_33 (x := p3) rfl ?_
          refine x_iadd C dX7_join_34 ?_
          exact x_iret C dX7_join_35 rfl
        · refine x_tsOut C dX7_join_1 (ts_out (fun j h1 h2 => ?_)) (tgt := 62) (by decide) ?_
          · have hj : j = -9 ∨ j = -8 ∨ j = -7 ∨ j = -6 := by omega
            rcases hj with rfl | rfl | rfl | rfl
            · exact h_m9
            · exact h_m8
            · exact h_m7
            · exact h_m6
          · refine x_iloadn C dX7_join_62 (x := p2) rfl ?_
            refine x_iloadn C dX7_join_63 (x := p3) rfl ?_
            refine x_ior C dX7_join_64 ?_
            exact x_iret C dX7_join_65 rfl
def ru_doStep_J58 (R : Nat) (p1 : Int32) (p2 : Int32) (M : Mem) : Option (Int32 × Mem) := (if p1 = (-5 : Int32) then some (p2, M) else (if p2 < (2 : Int32) then some (p2, M) else chk (inb (p2 - (2 : Int32)) 40) (chk (inb (p2 - (1 : Int32)) 40) ((ru_join (p1) ((M (R + 4) (p2 - (2 : Int32)).toNatClampNeg)) ((M (R + 4) (p2 - (1 : Int32)).toNatClampNeg)) M).bind fun v1 => chk (inb (p2 - (2 : Int32)) 40) (lt1 (wr M (R + 4) (p2 - (2 : Int32)).toNatClampNeg v1) fun M2 => some ((p2 - (1 : Int32)), M2))))))
def ru_doStep (R : Nat) (p1 : Int32) (p2 : Int32) (M : Mem) : Option (Int32 × Mem) := (if (-5 : Int32) < p1 then (if p2 < (40 : Int32) then (ru_partOf R (p1) M).bind fun v4 => chk (inb p2 40) (lt1 (wr M (R + 4) p2.toNatClampNeg v4) fun M5 => some ((p2 + (1 : Int32)), M5)) else some (p2, M)) else (if p1 = (-5 : Int32) then (if p2 < (1 : Int32) then ru_doStep_J58 R p1 p2 M else chk (inb (p2 - (1 : Int32)) 40) (chk (inb (p2 - (1 : Int32)) 40) (lt1 (wr M (R + 4) (p2 - (1 : Int32)).toNatClampNeg ((1 : Int32) - (M (R + 4) (p2 - (1 : Int32)).toNatClampNeg))) fun M3 => ru_doStep_J58 R p1 p2 M3))) else ru_doStep_J58 R p1 p2 M))
set_option maxHeartbeats 4000000 in
set_option maxRecDepth 20000 in
theorem w_ru_doStep_J58 {z : ZT} {l : Launch} {g : GG} {b : Nat} {R : Nat} (C : Cx z l g (wC b) (rmd 2) cX7_doStep 3 RX7 (some .int)) (hR : isRul R) (p1 : Int32) (p2 : Int32)  (M : Mem) : XG z g (wC b) 3 (ZQ z g (wC b) finM) 0 0 58 [some (.ref ((wC b).2.2.2 + R)), some (.int p1), some (.int p2)] [] M (ru_doStep_J58 R p1 p2 M) := by
  rw [ru_doStep_J58]
  refine x_iloadn C dX7_doStep_58 (x := p1) rfl ?_
  refine x_bipush C dX7_doStep_59 (v := (-5 : Int32)) (by decide) ?_
  refine x_icmpeq C dX7_doStep_61 (tgt := 69) (by decide) (fun _h => ?_) (fun _h => ?_)
  · refine x_iloadn C dX7_doStep_69 (x := p2) rfl ?_
    exact x_iret C dX7_doStep_70 rfl
  · refine x_iloadn C dX7_doStep_64 (x := p2) rfl ?_
    refine x_iconst C dX7_doStep_65 (v := (2 : Int32)) (by decide) ?_
    refine x_icmpge C dX7_doStep_66 (tgt := 71) (by decide) (fun _h => ?_) (fun _h => ?_)
    · refine x_aloadn C dX7_doStep_71 rfl ?_
      refine x_getR C fl_X7_28 cl_7 (R + 4) (nisRul_0 hR) (kisRul_0 hR) (fisRul_5 hR) dX7_doStep_72 ?_
      refine x_iloadn C dX7_doStep_75 (x := p2) rfl ?_
      refine x_iconst C dX7_doStep_76 (v := (2 : Int32)) (by decide) ?_
      refine x_isub C dX7_doStep_77 ?_
      refine x_iloadn C dX7_doStep_78 (x := p1) rfl ?_
      refine x_aloadn C dX7_doStep_79 rfl ?_
      refine x_getR C fl_X7_28 cl_7 (R + 4) (nisRul_0 hR) (kisRul_0 hR) (fisRul_5 hR) dX7_doStep_80 ?_
      refine x_iloadn C dX7_doStep_83 (x := p2) rfl ?_
      refine x_iconst C dX7_doStep_84 (v := (2 : Int32)) (by decide) ?_
      refine x_isub C dX7_doStep_85 ?_
      refine x_iald C (nisRul_4 hR) (kisRul_4 hR) dX7_doStep_86 ?_
      refine x_aloadn C dX7_doStep_87 rfl ?_
      refine x_getR C fl_X7_28 cl_7 (R + 4) (nisRul_0 hR) (kisRul_0 hR) (fisRul_5 hR) dX7_doStep_88 ?_
      refine x_iloadn C dX7_doStep_91 (x := p2) rfl ?_
      refine x_iconst C dX7_doStep_92 (v := (1 : Int32)) (by decide) ?_
      refine x_isub C dX7_doStep_93 ?_
      refine x_iald C (nisRul_4 hR) (kisRul_4 hR) dX7_doStep_94 ?_
      refine x_Si (st := [.int (p2 - (2 : Int32)), .ref ((wC b).2.2.2 + (R + 4))]) C (c_ru_join  (p1) ((M (R + 4) (p2 - (2 : Int32)).toNatClampNeg)) ((M (R + 4) (p2 - (1 : Int32)).toNatClampNeg)) M) lk_X7_61 rfl rfl (Nat.le_of_ble_eq_true rfl) (rmok_d (by decide) (by decide)) ⟨Nat.zero_le _, Nat.zero_le _⟩ dX7_doStep_95 (fun v1 => ?_)
      refine x_iast C (nisRul_4 hR) (kisRul_4 hR) dX7_doStep_98 ?_
      refine x_ltM (fun M2 => ?_)
      refine x_iloadn C dX7_doStep_99 (x := p2) rfl ?_
      refine x_iconst C dX7_doStep_100 (v := (1 : Int32)) (by decide) ?_
      refine x_isub C dX7_doStep_101 ?_
      exact x_iret C dX7_doStep_102 rfl
    · refine x_iloadn C dX7_doStep_69 (x := p2) rfl ?_
      exact x_iret C dX7_doStep_70 rfl
set_option maxHeartbeats 4000000 in
set_option maxRecDepth 20000 in
theorem c_ru_doStep {l : Launch} {g : GG} {b : Nat} {R : Nat} (hR : isRul R) (p1 : Int32) (p2 : Int32) (M : Mem) : CT l g (wC b) (rmd 2) yX7_doStep cX7_doStep 3 (some .int) [.ref ((wC b).2.2.2 + R), .int p1, .int p2] M finM (ru_doStep R p1 p2 M) := by
  refine CT.of rfl (Nat.le_of_ble_eq_true rfl) (catc rfl (catc rfl (catc rfl cat0))) (fun z C => ?_)
  have C : Cx z l g (wC b) (rmd 2) cX7_doStep 3 RX7 (some .int) := C
  refine x_wk (L' := [some (.ref ((wC b).2.2.2 + R)), some (.int p1), some (.int p2)]) (And.intro rfl (And.intro rfl (And.intro rfl trivial))) ?_
  rw [ru_doStep]
  refine x_iloadn C dX7_doStep_0 (x := p1) rfl ?_
  refine x_bipush C dX7_doStep_1 (v := (-5 : Int32)) (by decide) ?_
  refine x_icmple C dX7_doStep_3 (tgt := 29) (by decide) (fun _h => ?_) (fun _h => ?_)
  · refine x_iloadn C dX7_doStep_29 (x := p1) rfl ?_
    refine x_bipush C dX7_doStep_30 (v := (-5 : Int32)) (by decide) ?_
    refine x_icmpne C dX7_doStep_32 (tgt := 58) (by decide) (fun _h => ?_) (fun _h => ?_)
    · exact x_wk (L' := [some (.ref ((wC b).2.2.2 + R)), some (.int p1), some (.int p2)]) (And.intro rfl (And.intro rfl (And.intro rfl trivial))) (w_ru_doStep_J58 C hR p1 p2    M)
    · refine x_iloadn C dX7_doStep_35 (x := p2) rfl ?_
      refine x_iconst C dX7_doStep_36 (v := (1 : Int32)) (by decide) ?_
      refine x_icmplt C dX7_doStep_37 (tgt := 58) (by decide) (fun _h => ?_) (fun _h => ?_)
      · exact x_wk (L' := [some (.ref ((wC b).2.2.2 + R)), some (.int p1), some (.int p2)]) (And.intro rfl (And.intro rfl (And.intro rfl trivial))) (w_ru_doStep_J58 C hR p1 p2    M)
      · refine x_aloadn C dX7_doStep_40 rfl ?_
        refine x_getR C fl_X7_28 cl_7 (R + 4) (nisRul_0 hR) (kisRul_0 hR) (fisRul_5 hR) dX7_doStep_41 ?_
        refine x_iloadn C dX7_doStep_44 (x := p2) rfl ?_
        refine x_iconst C dX7_doStep_45 (v := (1 : Int32)) (by decide) ?_
        refine x_isub C dX7_doStep_46 ?_
        refine x_iconst C dX7_doStep_47 (v := (1 : Int32)) (by decide) ?_
        refine x_aloadn C dX7_doStep_48 rfl ?_
        refine x_getR C fl_X7_28 cl_7 (R + 4) (nisRul_0 hR) (kisRul_0 hR) (fisRul_5 hR) dX7_doStep_49 ?_
        refine x_iloadn C dX7_doStep_52 (x := p2) rfl ?_
        refine x_iconst C dX7_doStep_53 (v := (1 : Int32)) (by decide) ?_
        refine x_isub C dX7_doStep_54 ?_
        refine x_iald C (nisRul_4 hR) (kisRul_4 hR) dX7_doStep_55 ?_
        refine x_isub C dX7_doStep_56 ?_
        refine x_iast C (nisRul_4 hR) (kisRul_4 hR) dX7_doStep_57 ?_
        refine x_ltM (fun M3 => ?_)
        exact x_wk (L' := [some (.ref ((wC b).2.2.2 + R)), some (.int p1), some (.int p2)]) (And.intro rfl (And.intro rfl (And.intro rfl trivial))) (w_ru_doStep_J58 C hR p1 p2    M3)
  · refine x_iloadn C dX7_doStep_6 (x := p2) rfl ?_
    refine x_bipush C dX7_doStep_7 (v := (40 : Int32)) (by decide) ?_
    refine x_icmplt C dX7_doStep_9 (tgt := 14) (by decide) (fun _h => ?_) (fun _h => ?_)
    · refine x_aloadn C dX7_doStep_14 rfl ?_
      refine x_getR C fl_X7_28 cl_7 (R + 4) (nisRul_0 hR) (kisRul_0 hR) (fisRul_5 hR) dX7_doStep_15 ?_
      refine x_iloadn C dX7_doStep_18 (x := p2) rfl ?_
      refine x_aloadn C dX7_doStep_19 rfl ?_
      refine x_iloadn C dX7_doStep_20 (x := p1) rfl ?_
      refine x_Vi (st := [.int p2, .ref ((wC b).2.2.2 + (R + 4))]) C (c_ru_partOf hR (p1) M) lk_X7_57 (nisRul_0 hR) (kisRul_0 hR) ⟨_, _, rfl⟩ rfl rfl (Nat.le_of_ble_eq_true rfl) (rmok_d (by decide) (by decide)) ⟨Nat.zero_le _, Nat.zero_le _⟩ dX7_doStep_21 (fun v4 => ?_)
      refine x_iast C (nisRul_4 hR) (kisRul_4 hR) dX7_doStep_24 ?_
      refine x_ltM (fun M5 => ?_)
      refine x_iloadn C dX7_doStep_25 (x := p2) rfl ?_
      refine x_iconst C dX7_doStep_26 (v := (1 : Int32)) (by decide) ?_
      refine x_iadd C dX7_doStep_27 ?_
      exact x_iret C dX7_doStep_28 rfl
    · refine x_iloadn C dX7_doStep_12 (x := p2) rfl ?_
      exact x_iret C dX7_doStep_13 rfl
def ru_holds_L5 (R : Nat) (p1 : Int32) (p2 : Int32) (K : Int32 → Mem → Option (Int32 × Mem)) : Nat → Int32 → Int32 → Mem → Option (Int32 × Mem)
  | 0, _, _, _ => none
  | fu + 1, x3, x4, M => (if x4 < p2 then chk (inb x4 400) (bnd2 (ru_doStep R ((M (R + 3) x4.toNatClampNeg)) (x3) M) fun v2 M1 => ru_holds_L5 R p1 p2 K fu (v2) ((x4 + (1 : Int32))) (M1)) else K (x3) (M))
def ru_holds (R : Nat) (p1 : Int32) (p2 : Int32) (M : Mem) : Option (Int32 × Mem) := ru_holds_L5 R p1 p2 (fun v3_2 M4 => (if v3_2 = 0 then some ((1 : Int32), M4) else (if (M4 (R + 4) 0) = 0 then some ((0 : Int32), M4) else some ((1 : Int32), M4)))) FU ((0 : Int32)) (p1) M
set_option maxHeartbeats 4000000 in
set_option maxRecDepth 20000 in
theorem w_ru_holds_L5 {z : ZT} {l : Launch} {g : GG} {b : Nat} {R : Nat} (C : Cx z l g (wC b) (rmd 3) cX7_holds 5 RX7 (some .boolean)) (hR : isRul R) (p1 : Int32) (p2 : Int32) {K : Int32 → Mem → Option (Int32 × Mem)} (hK : ∀ (x3 : Int32) (M : Mem) , XG z g (wC b) 5 (ZQ z g (wC b) finM) 0 0 30 [some (.ref ((wC b).2.2.2 + R)), none, none, some (.int x3), none] [] M (K x3 M)) : ∀ (fu : Nat) (x3 : Int32) (x4 : Int32) (M : Mem), XG z g (wC b) 5 (ZQ z g (wC b) finM) 0 0 5 [some (.ref ((wC b).2.2.2 + R)), none, some (.int p2), some (.int x3), some (.int x4)] [] M (ru_holds_L5 R p1 p2 K fu x3 x4 M) := by
  intro fu
  induction fu with
  | zero => intro x3 x4 M; exact x_none
  | succ fu ih =>
    intro x3 x4 M
    rw [ru_holds_L5]
    refine x_iload C dX7_holds_5 (x := x4) rfl ?_
    refine x_iloadn C dX7_holds_7 (x := p2) rfl ?_
    refine x_icmpge C dX7_holds_8 (tgt := 30) (by decide) (fun _h => ?_) (fun _h => ?_)
    · exact x_wk (L' := [some (.ref ((wC b).2.2.2 + R)), none, none, some (.int x3), none]) (And.intro rfl (And.intro rfl trivial)) (hK (x3) (M))
    · refine x_aloadn C dX7_holds_11 rfl ?_
      refine x_aloadn C dX7_holds_12 rfl ?_
      refine x_getR C fl_X7_22 cl_7 (R + 3) (nisRul_0 hR) (kisRul_0 hR) (fisRul_3 hR) dX7_holds_13 ?_
      refine x_iload C dX7_holds_16 (x := x4) rfl ?_
      refine x_iald C (nisRul_3 hR) (kisRul_3 hR) dX7_holds_18 ?_
      refine x_iloadn C dX7_holds_19 (x := x3) rfl ?_
      refine x_Vm (st := []) C (c_ru_doStep hR ((M (R + 3) x4.toNatClampNeg)) (x3) M) lk_X7_53 (nisRul_0 hR) (kisRul_0 hR) ⟨_, _, rfl⟩ rfl rfl (Nat.le_of_ble_eq_true rfl) (rmok_d (by decide) (by decide)) ⟨Nat.zero_le _, Nat.zero_le _⟩ dX7_holds_20 (fun v2 M1 => ?_)
      refine x_istoren C dX7_holds_23 (L' := [some (.ref ((wC b).2.2.2 + R)), none, some (.int p2), some (.int v2), some (.int x4)]) (ltb rfl) rfl ?_
      refine x_iinc C dX7_holds_24 (v := (x4 + (1 : Int32))) rfl rfl (L' := [some (.ref ((wC b).2.2.2 + R)), none, some (.int p2), some (.int v2), some (.int (x4 + (1 : Int32)))]) rfl ?_
      refine x_goto C dX7_holds_27 (tgt := 5) (by decide) ?_
      exact x_wk (L' := [some (.ref ((wC b).2.2.2 + R)), none, some (.int p2), some (.int v2), some (.int (x4 + (1 : Int32)))]) (And.intro rfl (And.intro rfl (And.intro rfl (And.intro rfl trivial)))) (ih (v2) ((x4 + (1 : Int32))) (M1))
set_option maxHeartbeats 4000000 in
set_option maxRecDepth 20000 in
theorem c_ru_holds {l : Launch} {g : GG} {b : Nat} {R : Nat} (hR : isRul R) (p1 : Int32) (p2 : Int32) (M : Mem) : CT l g (wC b) (rmd 3) yX7_holds cX7_holds 5 (some .boolean) [.ref ((wC b).2.2.2 + R), .int p1, .int p2] M finM (ru_holds R p1 p2 M) := by
  refine CT.of rfl (Nat.le_of_ble_eq_true rfl) (catc rfl (catc rfl (catc rfl cat0))) (fun z C => ?_)
  have C : Cx z l g (wC b) (rmd 3) cX7_holds 5 RX7 (some .boolean) := C
  refine x_wk (L' := [some (.ref ((wC b).2.2.2 + R)), some (.int p1), some (.int p2), none, none]) (And.intro rfl (And.intro rfl (And.intro rfl trivial))) ?_
  rw [ru_holds]
  refine x_iconst C dX7_holds_0 (v := (0 : Int32)) (by decide) ?_
  refine x_istoren C dX7_holds_1 (L' := [some (.ref ((wC b).2.2.2 + R)), some (.int p1), some (.int p2), some (.int (0 : Int32)), none]) (ltb rfl) rfl ?_
  refine x_iloadn C dX7_holds_2 (x := p1) rfl ?_
  refine x_istore C dX7_holds_3 (L' := [some (.ref ((wC b).2.2.2 + R)), some (.int p1), some (.int p2), some (.int (0 : Int32)), some (.int p1)]) (ltb rfl) rfl ?_
  refine x_wk (L' := [some (.ref ((wC b).2.2.2 + R)), none, some (.int p2), some (.int (0 : Int32)), some (.int p1)]) (And.intro rfl (And.intro rfl (And.intro rfl (And.intro rfl trivial)))) (w_ru_holds_L5 C hR p1 p2   (fun v3_2 M4 => ?_) FU ((0 : Int32)) (p1) M)
  refine x_iloadn C dX7_holds_30 (x := v3_2) rfl ?_
  refine x_ifeq C dX7_holds_31 (tgt := 43) (by decide) (fun _h => ?_) (fun _h => ?_)
  · refine x_iconst C dX7_holds_43 (v := (1 : Int32)) (by decide) ?_
    refine x_goto C dX7_holds_44 (tgt := 48) (by decide) ?_
    exact x_zret C dX7_holds_48 rfl rfl
  · refine x_aloadn C dX7_holds_34 rfl ?_
    refine x_getR C fl_X7_28 cl_7 (R + 4) (nisRul_0 hR) (kisRul_0 hR) (fisRul_5 hR) dX7_holds_35 ?_
    refine x_iconst C dX7_holds_38 (v := (0 : Int32)) (by decide) ?_
    refine x_ialdj C (nisRul_4 hR) (kisRul_4 hR) (j := 0) (by decide) (by decide) dX7_holds_39 ?_
    refine x_ifeq C dX7_holds_40 (tgt := 47) (by decide) (fun _h => ?_) (fun _h => ?_)
    · refine x_iconst C dX7_holds_47 (v := (0 : Int32)) (by decide) ?_
      exact x_zret C dX7_holds_48 rfl rfl
    · refine x_iconst C dX7_holds_43 (v := (1 : Int32)) (by decide) ?_
      refine x_goto C dX7_holds_44 (tgt := 48) (by decide) ?_
      exact x_zret C dX7_holds_48 rfl rfl
def ru_numberOf_L15 (R : Nat) (p1 : Int32) (p2 : Int32) (K : Mem → Option (Int32 × Mem)) : Nat → Int32 → Int32 → Mem → Option (Int32 × Mem)
  | 0, _, _, _ => none
  | fu + 1, x3, x4, M => (if x4 < (M R 0) then chk (inb x4 12) (bnd2 (ru_holds R (x3) ((M (R + 2) x4.toNatClampNeg)) M) fun v4 M3 => (if v4 = 0 then chk (inb x4 12) (ru_numberOf_L15 R p1 p2 K fu ((M3 (R + 2) x4.toNatClampNeg)) ((x4 + (1 : Int32))) (M3)) else chk (inb x4 12) (some ((M3 (R + 1) x4.toNatClampNeg), M3)))) else K (M))
def ru_numberOf (R : Nat) (p1 : Int32) (p2 : Int32) (M : Mem) : Option (Int32 × Mem) := lt1 (wr M R 6 p1) fun M1 => lt1 (wr M1 R 7 p2) fun M2 => ru_numberOf_L15 R p1 p2 (fun M6 => some ((0 : Int32), M6)) FU ((0 : Int32)) ((0 : Int32)) M2
set_option maxHeartbeats 4000000 in
set_option maxRecDepth 20000 in
theorem w_ru_numberOf_L15 {z : ZT} {l : Launch} {g : GG} {b : Nat} {R : Nat} (C : Cx z l g (wC b) (rmd 4) cX7_numberOf 5 RX7 (some .int)) (hR : isRul R) (p1 : Int32) (p2 : Int32) {K : Mem → Option (Int32 × Mem)} (hK : ∀ (M : Mem) , XG z g (wC b) 5 (ZQ z g (wC b) finM) 0 0 61 [none, none, none, none, none] [] M (K M)) : ∀ (fu : Nat) (x3 : Int32) (x4 : Int32) (M : Mem), XG z g (wC b) 5 (ZQ z g (wC b) finM) 0 0 15 [some (.ref ((wC b).2.2.2 + R)), none, none, some (.int x3), some (.int x4)] [] M (ru_numberOf_L15 R p1 p2 K fu x3 x4 M) := by
  intro fu
  induction fu with
  | zero => intro x3 x4 M; exact x_none
  | succ fu ih =>
    intro x3 x4 M
    rw [ru_numberOf_L15]
    refine x_iload C dX7_numberOf_15 (x := x4) rfl ?_
    refine x_aloadn C dX7_numberOf_17 rfl ?_
    refine x_getI C fl_X7_9 cl_7 (nisRul_0 hR) (kisRul_0 hR) (fisRul_0 hR) dX7_numberOf_18 ?_
    refine x_icmpge C dX7_numberOf_21 (tgt := 61) (by decide) (fun _h => ?_) (fun _h => ?_)
    · exact x_wk (L' := [none, none, none, none, none]) (trivial) (hK (M))
    · refine x_aloadn C dX7_numberOf_24 rfl ?_
      refine x_iloadn C dX7_numberOf_25 (x := x3) rfl ?_
      refine x_aloadn C dX7_numberOf_26 rfl ?_
      refine x_getR C fl_X7_19 cl_7 (R + 2) (nisRul_0 hR) (kisRul_0 hR) (fisRul_2 hR) dX7_numberOf_27 ?_
      refine x_iload C dX7_numberOf_30 (x := x4) rfl ?_
      refine x_iald C (nisRul_2 hR) (kisRul_2 hR) dX7_numberOf_32 ?_
      refine x_Vm (st := []) C (c_ru_holds hR (x3) ((M (R + 2) x4.toNatClampNeg)) M) lk_X7_49 (nisRul_0 hR) (kisRul_0 hR) ⟨_, _, rfl⟩ rfl rfl (Nat.le_of_ble_eq_true rfl) (rmok_d (by decide) (by decide)) ⟨Nat.zero_le _, Nat.zero_le _⟩ dX7_numberOf_33 (fun v4 M3 => ?_)
      refine x_ifeq C dX7_numberOf_36 (tgt := 47) (by decide) (fun _h => ?_) (fun _h => ?_)
      · refine x_aloadn C dX7_numberOf_47 rfl ?_
        refine x_getR C fl_X7_19 cl_7 (R + 2) (nisRul_0 hR) (kisRul_0 hR) (fisRul_2 hR) dX7_numberOf_48 ?_
        refine x_iload C dX7_numberOf_51 (x := x4) rfl ?_
        refine x_iald C (nisRul_2 hR) (kisRul_2 hR) dX7_numberOf_53 ?_
        refine x_istoren C dX7_numberOf_54 (L' := [some (.ref ((wC b).2.2.2 + R)), none, none, some (.int (M3 (R + 2) x4.toNatClampNeg)), some (.int x4)]) (ltb rfl) rfl ?_
        refine x_iinc C dX7_numberOf_55 (v := (x4 + (1 : Int32))) rfl rfl (L' := [some (.ref ((wC b).2.2.2 + R)), none, none, some (.int (M3 (R + 2) x4.toNatClampNeg)), some (.int (x4 + (1 : Int32)))]) rfl ?_
        refine x_goto C dX7_numberOf_58 (tgt := 15) (by decide) ?_
        exact x_wk (L' := [some (.ref ((wC b).2.2.2 + R)), none, none, some (.int (M3 (R + 2) x4.toNatClampNeg)), some (.int (x4 + (1 : Int32)))]) (And.intro rfl (And.intro rfl (And.intro rfl trivial))) (ih ((M3 (R + 2) x4.toNatClampNeg)) ((x4 + (1 : Int32))) (M3))
      · refine x_aloadn C dX7_numberOf_39 rfl ?_
        refine x_getR C fl_X7_15 cl_7 (R + 1) (nisRul_0 hR) (kisRul_0 hR) (fisRul_1 hR) dX7_numberOf_40 ?_
        refine x_iload C dX7_numberOf_43 (x := x4) rfl ?_
        refine x_iald C (nisRul_1 hR) (kisRul_1 hR) dX7_numberOf_45 ?_
        exact x_iret C dX7_numberOf_46 rfl
set_option maxHeartbeats 4000000 in
set_option maxRecDepth 20000 in
theorem c_ru_numberOf {l : Launch} {g : GG} {b : Nat} {R : Nat} (hR : isRul R) (p1 : Int32) (p2 : Int32) (M : Mem) : CT l g (wC b) (rmd 4) yX7_numberOf cX7_numberOf 5 (some .int) [.ref ((wC b).2.2.2 + R), .int p1, .int p2] M finM (ru_numberOf R p1 p2 M) := by
  refine CT.of rfl (Nat.le_of_ble_eq_true rfl) (catc rfl (catc rfl (catc rfl cat0))) (fun z C => ?_)
  have C : Cx z l g (wC b) (rmd 4) cX7_numberOf 5 RX7 (some .int) := C
  refine x_wk (L' := [some (.ref ((wC b).2.2.2 + R)), some (.int p1), some (.int p2), none, none]) (And.intro rfl (And.intro rfl (And.intro rfl trivial))) ?_
  rw [ru_numberOf]
  refine x_aloadn C dX7_numberOf_0 rfl ?_
  refine x_iloadn C dX7_numberOf_1 (x := p1) rfl ?_
  refine x_putI C fl_X7_31 cl_7 fint_7_6 (nisRul_0 hR) (kisRul_0 hR) (fisRul_6 hR) dX7_numberOf_2 ?_
  refine x_ltM (fun M1 => ?_)
  refine x_aloadn C dX7_numberOf_5 rfl ?_
  refine x_iloadn C dX7_numberOf_6 (x := p2) rfl ?_
  refine x_putI C fl_X7_34 cl_7 fint_7_7 (nisRul_0 hR) (kisRul_0 hR) (fisRul_7 hR) dX7_numberOf_7 ?_
  refine x_ltM (fun M2 => ?_)
  refine x_iconst C dX7_numberOf_10 (v := (0 : Int32)) (by decide) ?_
  refine x_istoren C dX7_numberOf_11 (L' := [some (.ref ((wC b).2.2.2 + R)), some (.int p1), some (.int p2), some (.int (0 : Int32)), none]) (ltb rfl) rfl ?_
  refine x_iconst C dX7_numberOf_12 (v := (0 : Int32)) (by decide) ?_
  refine x_istore C dX7_numberOf_13 (L' := [some (.ref ((wC b).2.2.2 + R)), some (.int p1), some (.int p2), some (.int (0 : Int32)), some (.int (0 : Int32))]) (ltb rfl) rfl ?_
  refine x_wk (L' := [some (.ref ((wC b).2.2.2 + R)), none, none, some (.int (0 : Int32)), some (.int (0 : Int32))]) (And.intro rfl (And.intro rfl (And.intro rfl trivial))) (w_ru_numberOf_L15 C hR p1 p2   (fun M6 => ?_) FU ((0 : Int32)) ((0 : Int32)) M2)
  refine x_iconst C dX7_numberOf_61 (v := (0 : Int32)) (by decide) ?_
  exact x_iret C dX7_numberOf_62 rfl
def rd_readAll_L2 (self : Int32 → Mem → Option (Int32 × Mem)) (p1 : Int32) (K : Mem → Option (Int32 × Mem)) : Nat → Int32 → Mem → Option (Int32 × Mem)
  | 0, _, _ => none
  | fu + 1, x2, M => (if x2 < (400 : Int32) then bnd2 (self (p1) M) fun v2 M1 => (if v2 = 0 then some ((0 : Int32), M1) else (if 0 < x2 then (ru_putStep 63 ((-9 : Int32)) M1).bind fun M5 => bnd2 (tp_take ((18 : Int32)) M5) fun v7 M6 => (if v7 = 0 then some ((1 : Int32), M6) else rd_readAll_L2 self p1 K fu ((x2 + (1 : Int32))) (M6)) else bnd2 (tp_take ((18 : Int32)) M1) fun v4 M3 => (if v4 = 0 then some ((1 : Int32), M3) else rd_readAll_L2 self p1 K fu ((x2 + (1 : Int32))) (M3)))) else K (M))
def rd_readAll (self : Int32 → Mem → Option (Int32 × Mem)) (p1 : Int32) (M : Mem) : Option (Int32 × Mem) := rd_readAll_L2 self p1 (fun M9 => some ((0 : Int32), M9)) FU ((0 : Int32)) M
set_option maxHeartbeats 4000000 in
set_option maxRecDepth 20000 in
theorem w_rd_readAll_L2 {z : ZT} {l : Launch} {g : GG} {b : Nat} {self : Int32 → Mem → Option (Int32 × Mem)} {ds : Nat} (C : Cx z l g (wC b) (rmd (ds + 2)) cX8_readAll 3 RX8 (some .boolean)) (hself : ∀ (a0 : Int32) (M : Mem), CT l g (wC b) (rmd ds) yX8_readAtom cX8_readAtom 4 (some .boolean) [.ref ((wC b).2.2.2 + 74), .int a0] M finM (self a0 M)) (p1 : Int32) {K : Mem → Option (Int32 × Mem)} (hK : ∀ (M : Mem) , XG z g (wC b) 3 (ZQ z g (wC b) finM) 0 0 53 [none, none, none] [] M (K M)) : ∀ (fu : Nat) (x2 : Int32) (M : Mem), XG z g (wC b) 3 (ZQ z g (wC b) finM) 0 0 2 [some (.ref ((wC b).2.2.2 + 74)), some (.int p1), some (.int x2)] [] M (rd_readAll_L2 self p1 K fu x2 M) := by
  intro fu
  induction fu with
  | zero => intro x2 M; exact x_none
  | succ fu ih =>
    intro x2 M
    rw [rd_readAll_L2]
    refine x_iloadn C dX8_readAll_2 (x := x2) rfl ?_
    refine x_sipush C dX8_readAll_3 (v := (400 : Int32)) (by decide) ?_
    refine x_icmpge C dX8_readAll_6 (tgt := 53) (by decide) (fun _h => ?_) (fun _h => ?_)
    · exact x_wk (L' := [none, none, none]) (trivial) (hK (M))
    · refine x_aloadn C dX8_readAll_9 rfl ?_
      refine x_iloadn C dX8_readAll_10 (x := p1) rfl ?_
      refine x_Vm (st := []) C (hself (p1) M) lk_X8_74 nC74 kC74 ⟨_, _, rfl⟩ rfl rfl (Nat.le_of_ble_eq_true rfl) (rmok_d (by omega) (by decide)) ⟨Nat.zero_le _, Nat.zero_le _⟩ dX8_readAll_11 (fun v2 M1 => ?_)
      refine x_ifne C dX8_readAll_14 (tgt := 19) (by decide) (fun _h => ?_) (fun _h => ?_)
      · refine x_iloadn C dX8_readAll_19 (x := x2) rfl ?_
        refine x_ifle C dX8_readAll_20 (tgt := 32) (by decide) (fun _h => ?_) (fun _h => ?_)
        · refine x_aloadn C dX8_readAll_32 rfl ?_
          refine x_getR C fl_X8_9 cl_8 (1) nC74 kC74 fC74_0 dX8_readAll_33 ?_
          refine x_gsT C 17 (18 : Int32) ft_X8_77 (by decide) dX8_readAll_36 ?_
          refine x_Vm (st := []) C (c_tp_take  ((18 : Int32)) M1) lk_X8_43 nC1 kC1 ⟨_, _, rfl⟩ rfl rfl (Nat.le_of_ble_eq_true rfl) (rmok_d (by omega) (by decide)) ⟨Nat.zero_le _, Nat.zero_le _⟩ dX8_readAll_39 (fun v4 M3 => ?_)
          refine x_ifne C dX8_readAll_42 (tgt := 47) (by decide) (fun _h => ?_) (fun _h => ?_)
          · refine x_iinc C dX8_readAll_47 (v := (x2 + (1 : Int32))) rfl rfl (L' := [some (.ref ((wC b).2.2.2 + 74)), some (.int p1), some (.int (x2 + (1 : Int32)))]) rfl ?_
            refine x_goto C dX8_readAll_50 (tgt := 2) (by decide) ?_
            exact x_wk (L' := [some (.ref ((wC b).2.2.2 + 74)), some (.int p1), some (.int (x2 + (1 : Int32)))]) (And.intro rfl (And.intro rfl (And.intro rfl trivial))) (ih ((x2 + (1 : Int32))) (M3))
          · refine x_iconst C dX8_readAll_45 (v := (1 : Int32)) (by decide) ?_
            exact x_zret C dX8_readAll_46 rfl rfl
        · refine x_aloadn C dX8_readAll_23 rfl ?_
          refine x_getR C fl_X8_15 cl_8 (63) nC74 kC74 fC74_1 dX8_readAll_24 ?_
          refine x_bipush C dX8_readAll_27 (v := (-9 : Int32)) (by decide) ?_
          refine x_Vv (st := []) C (c_ru_putStep (Or.inr (Or.inl rfl)) ((-9 : Int32)) M1) lk_X8_68 nC63 kC63 ⟨_, _, rfl⟩ rfl rfl (Nat.le_of_ble_eq_true rfl) (rmok_d (by omega) (by decide)) ⟨Nat.zero_le _, Nat.zero_le _⟩ dX8_readAll_29 (fun M5 => ?_)
          refine x_aloadn C dX8_readAll_32 rfl ?_
          refine x_getR C fl_X8_9 cl_8 (1) nC74 kC74 fC74_0 dX8_readAll_33 ?_
          refine x_gsT C 17 (18 : Int32) ft_X8_77 (by decide) dX8_readAll_36 ?_
          refine x_Vm (st := []) C (c_tp_take  ((18 : Int32)) M5) lk_X8_43 nC1 kC1 ⟨_, _, rfl⟩ rfl rfl (Nat.le_of_ble_eq_true rfl) (rmok_d (by omega) (by decide)) ⟨Nat.zero_le _, Nat.zero_le _⟩ dX8_readAll_39 (fun v7 M6 => ?_)
          refine x_ifne C dX8_readAll_42 (tgt := 47) (by decide) (fun _h => ?_) (fun _h => ?_)
          · refine x_iinc C dX8_readAll_47 (v := (x2 + (1 : Int32))) rfl rfl (L' := [some (.ref ((wC b).2.2.2 + 74)), some (.int p1), some (.int (x2 + (1 : Int32)))]) rfl ?_
            refine x_goto C dX8_readAll_50 (tgt := 2) (by decide) ?_
            exact x_wk (L' := [some (.ref ((wC b).2.2.2 + 74)), some (.int p1), some (.int (x2 + (1 : Int32)))]) (And.intro rfl (And.intro rfl (And.intro rfl trivial))) (ih ((x2 + (1 : Int32))) (M6))
          · refine x_iconst C dX8_readAll_45 (v := (1 : Int32)) (by decide) ?_
            exact x_zret C dX8_readAll_46 rfl rfl
      · refine x_iconst C dX8_readAll_17 (v := (0 : Int32)) (by decide) ?_
        exact x_zret C dX8_readAll_18 rfl rfl
set_option maxHeartbeats 4000000 in
set_option maxRecDepth 20000 in
theorem c_rd_readAll {l : Launch} {g : GG} {b : Nat} {self : Int32 → Mem → Option (Int32 × Mem)} {ds : Nat} (hself : ∀ (a0 : Int32) (M : Mem), CT l g (wC b) (rmd ds) yX8_readAtom cX8_readAtom 4 (some .boolean) [.ref ((wC b).2.2.2 + 74), .int a0] M finM (self a0 M)) (p1 : Int32) (M : Mem) : CT l g (wC b) (rmd (ds + 2)) yX8_readAll cX8_readAll 3 (some .boolean) [.ref ((wC b).2.2.2 + 74), .int p1] M finM (rd_readAll self p1 M) := by
  refine CT.of rfl (Nat.le_of_ble_eq_true rfl) (catc rfl (catc rfl cat0)) (fun z C => ?_)
  have C : Cx z l g (wC b) (rmd (ds + 2)) cX8_readAll 3 RX8 (some .boolean) := C
  refine x_wk (L' := [some (.ref ((wC b).2.2.2 + 74)), some (.int p1), none]) (And.intro rfl (And.intro rfl trivial)) ?_
  rw [rd_readAll]
  refine x_iconst C dX8_readAll_0 (v := (0 : Int32)) (by decide) ?_
  refine x_istoren C dX8_readAll_1 (L' := [some (.ref ((wC b).2.2.2 + 74)), some (.int p1), some (.int (0 : Int32))]) (ltb rfl) rfl ?_
  refine x_wk (L' := [some (.ref ((wC b).2.2.2 + 74)), some (.int p1), some (.int (0 : Int32))]) (And.intro rfl (And.intro rfl (And.intro rfl trivial))) (w_rd_readAll_L2 C hself p1   (fun M9 => ?_) FU ((0 : Int32)) M)
  refine x_iconst C dX8_readAll_53 (v := (0 : Int32)) (by decide) ?_
  exact x_zret C dX8_readAll_54 rfl rfl
def rd_readAny_L2 (self : Int32 → Mem → Option (Int32 × Mem)) (p1 : Int32) (K : Mem → Option (Int32 × Mem)) : Nat → Int32 → Mem → Option (Int32 × Mem)
  | 0, _, _ => none
  | fu + 1, x2, M => (if x2 < (400 : Int32) then bnd2 (rd_readAll self (p1) M) fun v2 M1 => (if v2 = 0 then some ((0 : Int32), M1) else (if 0 < x2 then (ru_putStep 63 ((-10 : Int32)) M1).bind fun M5 => bnd2 (tp_take ((17 : Int32)) M5) fun v7 M6 => (if v7 = 0 then some ((1 : Int32), M6) else rd_readAny_L2 self p1 K fu ((x2 + (1 : Int32))) (M6)) else bnd2 (tp_take ((17 : Int32)) M1) fun v4 M3 => (if v4 = 0 then some ((1 : Int32), M3) else rd_readAny_L2 self p1 K fu ((x2 + (1 : Int32))) (M3)))) else K (M))
def rd_readAny (self : Int32 → Mem → Option (Int32 × Mem)) (p1 : Int32) (M : Mem) : Option (Int32 × Mem) := rd_readAny_L2 self p1 (fun M9 => some ((0 : Int32), M9)) FU ((0 : Int32)) M
set_option maxHeartbeats 4000000 in
set_option maxRecDepth 20000 in
theorem w_rd_readAny_L2 {z : ZT} {l : Launch} {g : GG} {b : Nat} {self : Int32 → Mem → Option (Int32 × Mem)} {ds : Nat} (C : Cx z l g (wC b) (rmd (ds + 3)) cX8_readAny 3 RX8 (some .boolean)) (hself : ∀ (a0 : Int32) (M : Mem), CT l g (wC b) (rmd ds) yX8_readAtom cX8_readAtom 4 (some .boolean) [.ref ((wC b).2.2.2 + 74), .int a0] M finM (self a0 M)) (p1 : Int32) {K : Mem → Option (Int32 × Mem)} (hK : ∀ (M : Mem) , XG z g (wC b) 3 (ZQ z g (wC b) finM) 0 0 53 [none, none, none] [] M (K M)) : ∀ (fu : Nat) (x2 : Int32) (M : Mem), XG z g (wC b) 3 (ZQ z g (wC b) finM) 0 0 2 [some (.ref ((wC b).2.2.2 + 74)), some (.int p1), some (.int x2)] [] M (rd_readAny_L2 self p1 K fu x2 M) := by
  intro fu
  induction fu with
  | zero => intro x2 M; exact x_none
  | succ fu ih =>
    intro x2 M
    rw [rd_readAny_L2]
    refine x_iloadn C dX8_readAny_2 (x := x2) rfl ?_
    refine x_sipush C dX8_readAny_3 (v := (400 : Int32)) (by decide) ?_
    refine x_icmpge C dX8_readAny_6 (tgt := 53) (by decide) (fun _h => ?_) (fun _h => ?_)
    · exact x_wk (L' := [none, none, none]) (trivial) (hK (M))
    · refine x_aloadn C dX8_readAny_9 rfl ?_
      refine x_iloadn C dX8_readAny_10 (x := p1) rfl ?_
      refine x_Vm (st := []) C (c_rd_readAll hself (p1) M) lk_X8_65 nC74 kC74 ⟨_, _, rfl⟩ rfl rfl (Nat.le_of_ble_eq_true rfl) (rmok_d (by omega) (by decide)) ⟨Nat.zero_le _, Nat.zero_le _⟩ dX8_readAny_11 (fun v2 M1 => ?_)
      refine x_ifne C dX8_readAny_14 (tgt := 19) (by decide) (fun _h => ?_) (fun _h => ?_)
      · refine x_iloadn C dX8_readAny_19 (x := x2) rfl ?_
        refine x_ifle C dX8_readAny_20 (tgt := 32) (by decide) (fun _h => ?_) (fun _h => ?_)
        · refine x_aloadn C dX8_readAny_32 rfl ?_
          refine x_getR C fl_X8_9 cl_8 (1) nC74 kC74 fC74_0 dX8_readAny_33 ?_
          refine x_gsT C 16 (17 : Int32) ft_X8_71 (by decide) dX8_readAny_36 ?_
          refine x_Vm (st := []) C (c_tp_take  ((17 : Int32)) M1) lk_X8_43 nC1 kC1 ⟨_, _, rfl⟩ rfl rfl (Nat.le_of_ble_eq_true rfl) (rmok_d (by omega) (by decide)) ⟨Nat.zero_le _, Nat.zero_le _⟩ dX8_readAny_39 (fun v4 M3 => ?_)
          refine x_ifne C dX8_readAny_42 (tgt := 47) (by decide) (fun _h => ?_) (fun _h => ?_)
          · refine x_iinc C dX8_readAny_47 (v := (x2 + (1 : Int32))) rfl rfl (L' := [some (.ref ((wC b).2.2.2 + 74)), some (.int p1), some (.int (x2 + (1 : Int32)))]) rfl ?_
            refine x_goto C dX8_readAny_50 (tgt := 2) (by decide) ?_
            exact x_wk (L' := [some (.ref ((wC b).2.2.2 + 74)), some (.int p1), some (.int (x2 + (1 : Int32)))]) (And.intro rfl (And.intro rfl (And.intro rfl trivial))) (ih ((x2 + (1 : Int32))) (M3))
          · refine x_iconst C dX8_readAny_45 (v := (1 : Int32)) (by decide) ?_
            exact x_zret C dX8_readAny_46 rfl rfl
        · refine x_aloadn C dX8_readAny_23 rfl ?_
          refine x_getR C fl_X8_15 cl_8 (63) nC74 kC74 fC74_1 dX8_readAny_24 ?_
          refine x_bipush C dX8_readAny_27 (v := (-10 : Int32)) (by decide) ?_
          refine x_Vv (st := []) C (c_ru_putStep (Or.inr (Or.inl rfl)) ((-10 : Int32)) M1) lk_X8_68 nC63 kC63 ⟨_, _, rfl⟩ rfl rfl (Nat.le_of_ble_eq_true rfl) (rmok_d (by omega) (by decide)) ⟨Nat.zero_le _, Nat.zero_le _⟩ dX8_readAny_29 (fun M5 => ?_)
          refine x_aloadn C dX8_readAny_32 rfl ?_
          refine x_getR C fl_X8_9 cl_8 (1) nC74 kC74 fC74_0 dX8_readAny_33 ?_
          refine x_gsT C 16 (17 : Int32) ft_X8_71 (by decide) dX8_readAny_36 ?_
          refine x_Vm (st := []) C (c_tp_take  ((17 : Int32)) M5) lk_X8_43 nC1 kC1 ⟨_, _, rfl⟩ rfl rfl (Nat.le_of_ble_eq_true rfl) (rmok_d (by omega) (by decide)) ⟨Nat.zero_le _, Nat.zero_le _⟩ dX8_readAny_39 (fun v7 M6 => ?_)
          refine x_ifne C dX8_readAny_42 (tgt := 47) (by decide) (fun _h => ?_) (fun _h => ?_)
          · refine x_iinc C dX8_readAny_47 (v := (x2 + (1 : Int32))) rfl rfl (L' := [some (.ref ((wC b).2.2.2 + 74)), some (.int p1), some (.int (x2 + (1 : Int32)))]) rfl ?_
            refine x_goto C dX8_readAny_50 (tgt := 2) (by decide) ?_
            exact x_wk (L' := [some (.ref ((wC b).2.2.2 + 74)), some (.int p1), some (.int (x2 + (1 : Int32)))]) (And.intro rfl (And.intro rfl (And.intro rfl trivial))) (ih ((x2 + (1 : Int32))) (M6))
          · refine x_iconst C dX8_readAny_45 (v := (1 : Int32)) (by decide) ?_
            exact x_zret C dX8_readAny_46 rfl rfl
      · refine x_iconst C dX8_readAny_17 (v := (0 : Int32)) (by decide) ?_
        exact x_zret C dX8_readAny_18 rfl rfl
set_option maxHeartbeats 4000000 in
set_option maxRecDepth 20000 in
theorem c_rd_readAny {l : Launch} {g : GG} {b : Nat} {self : Int32 → Mem → Option (Int32 × Mem)} {ds : Nat} (hself : ∀ (a0 : Int32) (M : Mem), CT l g (wC b) (rmd ds) yX8_readAtom cX8_readAtom 4 (some .boolean) [.ref ((wC b).2.2.2 + 74), .int a0] M finM (self a0 M)) (p1 : Int32) (M : Mem) : CT l g (wC b) (rmd (ds + 3)) yX8_readAny cX8_readAny 3 (some .boolean) [.ref ((wC b).2.2.2 + 74), .int p1] M finM (rd_readAny self p1 M) := by
  refine CT.of rfl (Nat.le_of_ble_eq_true rfl) (catc rfl (catc rfl cat0)) (fun z C => ?_)
  have C : Cx z l g (wC b) (rmd (ds + 3)) cX8_readAny 3 RX8 (some .boolean) := C
  refine x_wk (L' := [some (.ref ((wC b).2.2.2 + 74)), some (.int p1), none]) (And.intro rfl (And.intro rfl trivial)) ?_
  rw [rd_readAny]
  refine x_iconst C dX8_readAny_0 (v := (0 : Int32)) (by decide) ?_
  refine x_istoren C dX8_readAny_1 (L' := [some (.ref ((wC b).2.2.2 + 74)), some (.int p1), some (.int (0 : Int32))]) (ltb rfl) rfl ?_
  refine x_wk (L' := [some (.ref ((wC b).2.2.2 + 74)), some (.int p1), some (.int (0 : Int32))]) (And.intro rfl (And.intro rfl (And.intro rfl trivial))) (w_rd_readAny_L2 C hself p1   (fun M9 => ?_) FU ((0 : Int32)) M)
  refine x_iconst C dX8_readAny_53 (v := (0 : Int32)) (by decide) ?_
  exact x_zret C dX8_readAny_54 rfl rfl
def rd_partOf (p1 : Int32) (p2 : Int32) (M : Mem) : Option Int32 := (if teq p1 (2 : Int32) = true then some (p2) else (if teq p1 (20 : Int32) = true then some ((-1 : Int32)) else (if teq p1 (21 : Int32) = true then some ((-2 : Int32)) else (if teq p1 (22 : Int32) = true then some ((-3 : Int32)) else (if teq p1 (23 : Int32) = true then some ((-4 : Int32)) else some ((-100 : Int32)))))))
set_option maxHeartbeats 4000000 in
set_option maxRecDepth 20000 in
theorem c_rd_partOf {l : Launch} {g : GG} {b : Nat} (p1 : Int32) (p2 : Int32) (M : Mem) : CT l g (wC b) (rmd 1) yX8_partOf cX8_partOf 2 (some .int) [va_rf (ths g p1), .int p2] M (finI M) (rd_partOf p1 p2 M) := by
  refine CT.of rfl (Nat.le_of_ble_eq_true rfl) (catc (cat_rf _) (catc rfl cat0)) (fun z C => ?_)
  have C : Cx z l g (wC b) (rmd 1) cX8_partOf 2 RX8 (some .int) := C
  refine x_wk (L' := [some (va_rf (ths g p1)), some (.int p2)]) (And.intro rfl (And.intro rfl trivial)) ?_
  rw [rd_partOf]
  refine x_qloadn C dX8_partOf_0 rfl ?_
  refine x_gsT C 1 (2 : Int32) ft_X8_51 (by decide) dX8_partOf_1 ?_
  refine x_acmpne C dX8_partOf_4 (tgt := 9) (by decide) (fun _h => ?_) (fun _h => ?_)
  · refine x_qloadn C dX8_partOf_9 rfl ?_
    refine x_gsT C 19 (20 : Int32) ft_X8_108 (by decide) dX8_partOf_10 ?_
    refine x_acmpne C dX8_partOf_13 (tgt := 18) (by decide) (fun _h => ?_) (fun _h => ?_)
    · refine x_qloadn C dX8_partOf_18 rfl ?_
      refine x_gsT C 20 (21 : Int32) ft_X8_111 (by decide) dX8_partOf_19 ?_
      refine x_acmpne C dX8_partOf_22 (tgt := 28) (by decide) (fun _h => ?_) (fun _h => ?_)
      · refine x_qloadn C dX8_partOf_28 rfl ?_
        refine x_gsT C 21 (22 : Int32) ft_X8_114 (by decide) dX8_partOf_29 ?_
        refine x_acmpne C dX8_partOf_32 (tgt := 38) (by decide) (fun _h => ?_) (fun _h => ?_)
        · refine x_qloadn C dX8_partOf_38 rfl ?_
          refine x_gsT C 22 (23 : Int32) ft_X8_117 (by decide) dX8_partOf_39 ?_
          refine x_acmpne C dX8_partOf_42 (tgt := 50) (by decide) (fun _h => ?_) (fun _h => ?_)
          · refine x_bipush C dX8_partOf_50 (v := (-100 : Int32)) (by decide) ?_
            exact x_iret C dX8_partOf_52 rfl
          · refine x_bipush C dX8_partOf_45 (v := (-4 : Int32)) (by decide) ?_
            refine x_goto C dX8_partOf_47 (tgt := 52) (by decide) ?_
            exact x_iret C dX8_partOf_52 rfl
        · refine x_bipush C dX8_partOf_35 (v := (-3 : Int32)) (by decide) ?_
          exact x_iret C dX8_partOf_37 rfl
      · refine x_bipush C dX8_partOf_25 (v := (-2 : Int32)) (by decide) ?_
        exact x_iret C dX8_partOf_27 rfl
    · refine x_iconst C dX8_partOf_16 (v := (-1 : Int32)) (by decide) ?_
      exact x_iret C dX8_partOf_17 rfl
  · refine x_iloadn C dX8_partOf_7 (x := p2) rfl ?_
    exact x_iret C dX8_partOf_8 rfl
def rd_readSum_L2  (K : Mem → Option (Int32 × Mem)) : Nat → Int32 → Mem → Option (Int32 × Mem)
  | 0, _, _ => none
  | fu + 1, x1, M => (if x1 < (400 : Int32) then (tp_thing M).bind fun v1 => (tp_number M).bind fun v2 => (rd_partOf (v1) (v2) M).bind fun v3 => (if v3 = (-100 : Int32) then some ((0 : Int32), M) else (tp_next M).bind fun M4 => (ru_putStep 63 (v3) M4).bind fun M5 => (if 0 < x1 then (ru_putStep 63 ((-6 : Int32)) M5).bind fun M8 => bnd2 (tp_take ((29 : Int32)) M8) fun v10 M9 => (if v10 = 0 then some ((1 : Int32), M9) else rd_readSum_L2 K fu ((x1 + (1 : Int32))) (M9)) else bnd2 (tp_take ((29 : Int32)) M5) fun v7 M6 => (if v7 = 0 then some ((1 : Int32), M6) else rd_readSum_L2 K fu ((x1 + (1 : Int32))) (M6)))) else K (M))
def rd_readSum (M : Mem) : Option (Int32 × Mem) := rd_readSum_L2 (fun M12 => some ((0 : Int32), M12)) FU ((0 : Int32)) M
set_option maxHeartbeats 4000000 in
set_option maxRecDepth 20000 in
theorem w_rd_readSum_L2 {z : ZT} {l : Launch} {g : GG} {b : Nat} (C : Cx z l g (wC b) (rmd 2) cX8_readSum 3 RX8 (some .boolean))  {K : Mem → Option (Int32 × Mem)} (hK : ∀ (M : Mem) , XG z g (wC b) 3 (ZQ z g (wC b) finM) 0 0 84 [none, none, none] [] M (K M)) : ∀ (fu : Nat) (x1 : Int32) (M : Mem), XG z g (wC b) 3 (ZQ z g (wC b) finM) 0 0 2 [some (.ref ((wC b).2.2.2 + 74)), some (.int x1), none] [] M (rd_readSum_L2 K fu x1 M) := by
  intro fu
  induction fu with
  | zero => intro x1 M; exact x_none
  | succ fu ih =>
    intro x1 M
    rw [rd_readSum_L2]
    refine x_iloadn C dX8_readSum_2 (x := x1) rfl ?_
    refine x_sipush C dX8_readSum_3 (v := (400 : Int32)) (by decide) ?_
    refine x_icmpge C dX8_readSum_6 (tgt := 84) (by decide) (fun _h => ?_) (fun _h => ?_)
    · exact x_wk (L' := [none, none, none]) (trivial) (hK (M))
    · refine x_aloadn C dX8_readSum_9 rfl ?_
      refine x_getR C fl_X8_9 cl_8 (1) nC74 kC74 fC74_0 dX8_readSum_10 ?_
      refine x_Vq (st := []) C (c_tp_thing   M) lk_X8_24 nC1 kC1 ⟨_, _, rfl⟩ rfl rfl (Nat.le_of_ble_eq_true rfl) (rmok_d (by decide) (by decide)) ⟨Nat.zero_le _, Nat.zero_le _⟩ dX8_readSum_13 (fun v1 => ?_)
      refine x_aloadn C dX8_readSum_16 rfl ?_
      refine x_getR C fl_X8_9 cl_8 (1) nC74 kC74 fC74_0 dX8_readSum_17 ?_
      refine x_Vi (st := [va_rf (ths g v1)]) C (c_tp_number   M) lk_X8_47 nC1 kC1 ⟨_, _, rfl⟩ rfl rfl (by simp only [List.map_cons, List.map_nil, List.sum_cons, List.sum_nil, cat_rf]; exact Nat.le_of_ble_eq_true rfl) (rmok_d (by decide) (by decide)) ⟨Nat.zero_le _, Nat.zero_le _⟩ dX8_readSum_20 (fun v2 => ?_)
      refine x_Si (st := []) C (c_rd_partOf  (v1) (v2) M) lk_X8_101 rfl rfl (Nat.le_of_ble_eq_true rfl) (rmok_d (by decide) (by decide)) ⟨Nat.zero_le _, Nat.zero_le _⟩ dX8_readSum_23 (fun v3 => ?_)
      refine x_istoren C dX8_readSum_26 (L' := [some (.ref ((wC b).2.2.2 + 74)), some (.int x1), some (.int v3)]) (ltb rfl) rfl ?_
      refine x_iloadn C dX8_readSum_27 (x := v3) rfl ?_
      refine x_bipush C dX8_readSum_28 (v := (-100 : Int32)) (by decide) ?_
      refine x_icmpne C dX8_readSum_30 (tgt := 35) (by decide) (fun _h => ?_) (fun _h => ?_)
      · refine x_aloadn C dX8_readSum_35 rfl ?_
        refine x_getR C fl_X8_9 cl_8 (1) nC74 kC74 fC74_0 dX8_readSum_36 ?_
        refine x_Vv (st := []) C (c_tp_next   M) lk_X8_98 nC1 kC1 ⟨_, _, rfl⟩ rfl rfl (Nat.le_of_ble_eq_true rfl) (rmok_d (by decide) (by decide)) ⟨Nat.zero_le _, Nat.zero_le _⟩ dX8_readSum_39 (fun M4 => ?_)
        refine x_aloadn C dX8_readSum_42 rfl ?_
        refine x_getR C fl_X8_15 cl_8 (63) nC74 kC74 fC74_1 dX8_readSum_43 ?_
        refine x_iloadn C dX8_readSum_46 (x := v3) rfl ?_
        refine x_Vv (st := []) C (c_ru_putStep (Or.inr (Or.inl rfl)) (v3) M4) lk_X8_68 nC63 kC63 ⟨_, _, rfl⟩ rfl rfl (Nat.le_of_ble_eq_true rfl) (rmok_d (by decide) (by decide)) ⟨Nat.zero_le _, Nat.zero_le _⟩ dX8_readSum_47 (fun M5 => ?_)
        refine x_iloadn C dX8_readSum_50 (x := x1) rfl ?_
        refine x_ifle C dX8_readSum_51 (tgt := 63) (by decide) (fun _h => ?_) (fun _h => ?_)
        · refine x_aloadn C dX8_readSum_63 rfl ?_
          refine x_getR C fl_X8_9 cl_8 (1) nC74 kC74 fC74_0 dX8_readSum_64 ?_
          refine x_gsT C 28 (29 : Int32) ft_X8_105 (by decide) dX8_readSum_67 ?_
          refine x_Vm (st := []) C (c_tp_take  ((29 : Int32)) M5) lk_X8_43 nC1 kC1 ⟨_, _, rfl⟩ rfl rfl (Nat.le_of_ble_eq_true rfl) (rmok_d (by decide) (by decide)) ⟨Nat.zero_le _, Nat.zero_le _⟩ dX8_readSum_70 (fun v7 M6 => ?_)
          refine x_ifne C dX8_readSum_73 (tgt := 78) (by decide) (fun _h => ?_) (fun _h => ?_)
          · refine x_iinc C dX8_readSum_78 (v := (x1 + (1 : Int32))) rfl rfl (L' := [some (.ref ((wC b).2.2.2 + 74)), some (.int (x1 + (1 : Int32))), some (.int v3)]) rfl ?_
            refine x_goto C dX8_readSum_81 (tgt := 2) (by decide) ?_
            exact x_wk (L' := [some (.ref ((wC b).2.2.2 + 74)), some (.int (x1 + (1 : Int32))), none]) (And.intro rfl (And.intro rfl trivial)) (ih ((x1 + (1 : Int32))) (M6))
          · refine x_iconst C dX8_readSum_76 (v := (1 : Int32)) (by decide) ?_
            exact x_zret C dX8_readSum_77 rfl rfl
        · refine x_aloadn C dX8_readSum_54 rfl ?_
          refine x_getR C fl_X8_15 cl_8 (63) nC74 kC74 fC74_1 dX8_readSum_55 ?_
          refine x_bipush C dX8_readSum_58 (v := (-6 : Int32)) (by decide) ?_
          refine x_Vv (st := []) C (c_ru_putStep (Or.inr (Or.inl rfl)) ((-6 : Int32)) M5) lk_X8_68 nC63 kC63 ⟨_, _, rfl⟩ rfl rfl (Nat.le_of_ble_eq_true rfl) (rmok_d (by decide) (by decide)) ⟨Nat.zero_le _, Nat.zero_le _⟩ dX8_readSum_60 (fun M8 => ?_)
          refine x_aloadn C dX8_readSum_63 rfl ?_
          refine x_getR C fl_X8_9 cl_8 (1) nC74 kC74 fC74_0 dX8_readSum_64 ?_
          refine x_gsT C 28 (29 : Int32) ft_X8_105 (by decide) dX8_readSum_67 ?_
          refine x_Vm (st := []) C (c_tp_take  ((29 : Int32)) M8) lk_X8_43 nC1 kC1 ⟨_, _, rfl⟩ rfl rfl (Nat.le_of_ble_eq_true rfl) (rmok_d (by decide) (by decide)) ⟨Nat.zero_le _, Nat.zero_le _⟩ dX8_readSum_70 (fun v10 M9 => ?_)
          refine x_ifne C dX8_readSum_73 (tgt := 78) (by decide) (fun _h => ?_) (fun _h => ?_)
          · refine x_iinc C dX8_readSum_78 (v := (x1 + (1 : Int32))) rfl rfl (L' := [some (.ref ((wC b).2.2.2 + 74)), some (.int (x1 + (1 : Int32))), some (.int v3)]) rfl ?_
            refine x_goto C dX8_readSum_81 (tgt := 2) (by decide) ?_
            exact x_wk (L' := [some (.ref ((wC b).2.2.2 + 74)), some (.int (x1 + (1 : Int32))), none]) (And.intro rfl (And.intro rfl trivial)) (ih ((x1 + (1 : Int32))) (M9))
          · refine x_iconst C dX8_readSum_76 (v := (1 : Int32)) (by decide) ?_
            exact x_zret C dX8_readSum_77 rfl rfl
      · refine x_iconst C dX8_readSum_33 (v := (0 : Int32)) (by decide) ?_
        exact x_zret C dX8_readSum_34 rfl rfl
set_option maxHeartbeats 4000000 in
set_option maxRecDepth 20000 in
theorem c_rd_readSum {l : Launch} {g : GG} {b : Nat} (M : Mem) : CT l g (wC b) (rmd 2) yX8_readSum cX8_readSum 3 (some .boolean) [.ref ((wC b).2.2.2 + 74)] M finM (rd_readSum  M) := by
  refine CT.of rfl (Nat.le_of_ble_eq_true rfl) (catc rfl cat0) (fun z C => ?_)
  have C : Cx z l g (wC b) (rmd 2) cX8_readSum 3 RX8 (some .boolean) := C
  refine x_wk (L' := [some (.ref ((wC b).2.2.2 + 74)), none, none]) (And.intro rfl trivial) ?_
  rw [rd_readSum]
  refine x_iconst C dX8_readSum_0 (v := (0 : Int32)) (by decide) ?_
  refine x_istoren C dX8_readSum_1 (L' := [some (.ref ((wC b).2.2.2 + 74)), some (.int (0 : Int32)), none]) (ltb rfl) rfl ?_
  refine x_wk (L' := [some (.ref ((wC b).2.2.2 + 74)), some (.int (0 : Int32)), none]) (And.intro rfl (And.intro rfl trivial)) (w_rd_readSum_L2 C    (fun M12 => ?_) FU ((0 : Int32)) M)
  refine x_iconst C dX8_readSum_84 (v := (0 : Int32)) (by decide) ?_
  exact x_zret C dX8_readSum_85 rfl rfl
def rd_readAtom_J137 (self : Int32 → Mem → Option (Int32 × Mem)) (p1 : Int32) (x3 : Int32) (M : Mem) : Option (Int32 × Mem) := (tp_next M).bind fun M9 => bnd2 (rd_readSum M9) fun v11 M10 => (if v11 = 0 then some ((0 : Int32), M10) else (if teq x3 (27 : Int32) = true then (ru_putStep 63 ((-7 : Int32)) M10).bind fun M13 => some ((1 : Int32), M13) else (ru_putStep 63 ((-8 : Int32)) M10).bind fun M12 => some ((1 : Int32), M12)))
def rd_readAtom_J30 (self : Int32 → Mem → Option (Int32 × Mem)) (p1 : Int32) (M : Mem) : Option (Int32 × Mem) := bnd2 (tp_take ((25 : Int32)) M) fun v3 M2 => (if v3 = 0 then bnd2 (tp_take ((19 : Int32)) M2) fun v5 M4 => (if v5 = 0 then bnd2 (rd_readSum M4) fun v7 M6 => (if v7 = 0 then some ((0 : Int32), M6) else (tp_thing M6).bind fun v8 => (if teq v8 (27 : Int32) = true then rd_readAtom_J137 self p1 (v8) M6 else (if teq v8 (28 : Int32) = true then rd_readAtom_J137 self p1 (v8) M6 else some ((0 : Int32), M6)))) else bnd2 (self ((p1 + (1 : Int32))) M4) fun v15 M14 => (ru_putStep 63 ((-5 : Int32)) M14).bind fun M16 => chk (isB v15) (some (v15, M16))) else bnd2 (rd_readAny self ((p1 + (1 : Int32))) M2) fun v18 M17 => (if v18 = 0 then some ((0 : Int32), M17) else bnd2 (tp_take ((26 : Int32)) M17) fun v20 M19 => (if v20 = 0 then some ((0 : Int32), M19) else some ((1 : Int32), M19))))
def rd_readAtom_J22 (self : Int32 → Mem → Option (Int32 × Mem)) (p1 : Int32) (M : Mem) : Option (Int32 × Mem) := (if p1 < (6 : Int32) then rd_readAtom_J30 self p1 M else some ((0 : Int32), M))
def rd_readAtom_S (self : Int32 → Mem → Option (Int32 × Mem)) (p1 : Int32) (M : Mem) : Option (Int32 × Mem) := (tp_thing M).bind fun v1 => (if teq v1 (19 : Int32) = true then rd_readAtom_J22 self p1 M else (if teq v1 (25 : Int32) = true then rd_readAtom_J22 self p1 M else rd_readAtom_J30 self p1 M))
def rd_readAtom : Nat → Int32 → Mem → Option (Int32 × Mem)
  | 0 => fun _ _ => none
  | fu + 1 => fun p1 M => rd_readAtom_S (rd_readAtom fu) p1 M
set_option maxHeartbeats 4000000 in
set_option maxRecDepth 20000 in
theorem w_rd_readAtom_J137 {z : ZT} {l : Launch} {g : GG} {b : Nat} {self : Int32 → Mem → Option (Int32 × Mem)} {ds : Nat} (C : Cx z l g (wC b) (rmd (ds + 4)) cX8_readAtom 4 RX8 (some .boolean)) (hself : ∀ (a0 : Int32) (M : Mem), CT l g (wC b) (rmd ds) yX8_readAtom cX8_readAtom 4 (some .boolean) [.ref ((wC b).2.2.2 + 74), .int a0] M finM (self a0 M)) (p1 : Int32)  (x3 : Int32) (M : Mem) : XG z g (wC b) 4 (ZQ z g (wC b) finM) 0 0 137 [some (.ref ((wC b).2.2.2 + 74)), none, none, some (va_rf (ths g x3))] [] M (rd_readAtom_J137 self p1 x3 M) := by
  rw [rd_readAtom_J137]
  refine x_aloadn C dX8_readAtom_137 rfl ?_
  refine x_getR C fl_X8_9 cl_8 (1) nC74 kC74 fC74_0 dX8_readAtom_138 ?_
  refine x_Vv (st := []) C (c_tp_next   M) lk_X8_98 nC1 kC1 ⟨_, _, rfl⟩ rfl rfl (Nat.le_of_ble_eq_true rfl) (rmok_d (by omega) (by decide)) ⟨Nat.zero_le _, Nat.zero_le _⟩ dX8_readAtom_141 (fun M9 => ?_)
  refine x_aloadn C dX8_readAtom_144 rfl ?_
  refine x_Vm (st := []) C (c_rd_readSum   M9) lk_X8_89 nC74 kC74 ⟨_, _, rfl⟩ rfl rfl (Nat.le_of_ble_eq_true rfl) (rmok_d (by omega) (by decide)) ⟨Nat.zero_le _, Nat.zero_le _⟩ dX8_readAtom_145 (fun v11 M10 => ?_)
  refine x_ifne C dX8_readAtom_148 (tgt := 153) (by decide) (fun _h => ?_) (fun _h => ?_)
  · refine x_aloadn C dX8_readAtom_153 rfl ?_
    refine x_getR C fl_X8_15 cl_8 (63) nC74 kC74 fC74_1 dX8_readAtom_154 ?_
    refine x_qloadn C dX8_readAtom_157 rfl ?_
    refine x_gsT C 26 (27 : Int32) ft_X8_92 (by decide) dX8_readAtom_158 ?_
    refine x_acmpne C dX8_readAtom_161 (tgt := 169) (by decide) (fun _h => ?_) (fun _h => ?_)
    · refine x_bipush C dX8_readAtom_169 (v := (-8 : Int32)) (by decide) ?_
      refine x_Vv (st := []) C (c_ru_putStep (Or.inr (Or.inl rfl)) ((-8 : Int32)) M10) lk_X8_68 nC63 kC63 ⟨_, _, rfl⟩ rfl rfl (Nat.le_of_ble_eq_true rfl) (rmok_d (by omega) (by decide)) ⟨Nat.zero_le _, Nat.zero_le _⟩ dX8_readAtom_171 (fun M12 => ?_)
      refine x_iconst C dX8_readAtom_174 (v := (1 : Int32)) (by decide) ?_
      exact x_zret C dX8_readAtom_175 rfl rfl
    · refine x_bipush C dX8_readAtom_164 (v := (-7 : Int32)) (by decide) ?_
      refine x_goto C dX8_readAtom_166 (tgt := 171) (by decide) ?_
      refine x_Vv (st := []) C (c_ru_putStep (Or.inr (Or.inl rfl)) ((-7 : Int32)) M10) lk_X8_68 nC63 kC63 ⟨_, _, rfl⟩ rfl rfl (Nat.le_of_ble_eq_true rfl) (rmok_d (by omega) (by decide)) ⟨Nat.zero_le _, Nat.zero_le _⟩ dX8_readAtom_171 (fun M13 => ?_)
      refine x_iconst C dX8_readAtom_174 (v := (1 : Int32)) (by decide) ?_
      exact x_zret C dX8_readAtom_175 rfl rfl
  · refine x_iconst C dX8_readAtom_151 (v := (0 : Int32)) (by decide) ?_
    exact x_zret C dX8_readAtom_152 rfl rfl
set_option maxHeartbeats 4000000 in
set_option maxRecDepth 20000 in
theorem w_rd_readAtom_J30 {z : ZT} {l : Launch} {g : GG} {b : Nat} {self : Int32 → Mem → Option (Int32 × Mem)} {ds : Nat} (C : Cx z l g (wC b) (rmd (ds + 4)) cX8_readAtom 4 RX8 (some .boolean)) (hself : ∀ (a0 : Int32) (M : Mem), CT l g (wC b) (rmd ds) yX8_readAtom cX8_readAtom 4 (some .boolean) [.ref ((wC b).2.2.2 + 74), .int a0] M finM (self a0 M)) (p1 : Int32)  (M : Mem) : XG z g (wC b) 4 (ZQ z g (wC b) finM) 0 0 30 [some (.ref ((wC b).2.2.2 + 74)), some (.int p1), none, none] [] M (rd_readAtom_J30 self p1 M) := by
  rw [rd_readAtom_J30]
  refine x_aloadn C dX8_readAtom_30 rfl ?_
  refine x_getR C fl_X8_9 cl_8 (1) nC74 kC74 fC74_0 dX8_readAtom_31 ?_
  refine x_gsT C 24 (25 : Int32) ft_X8_83 (by decide) dX8_readAtom_34 ?_
  refine x_Vm (st := []) C (c_tp_take  ((25 : Int32)) M) lk_X8_43 nC1 kC1 ⟨_, _, rfl⟩ rfl rfl (Nat.le_of_ble_eq_true rfl) (rmok_d (by omega) (by decide)) ⟨Nat.zero_le _, Nat.zero_le _⟩ dX8_readAtom_37 (fun v3 M2 => ?_)
  refine x_ifeq C dX8_readAtom_40 (tgt := 72) (by decide) (fun _h => ?_) (fun _h => ?_)
  · refine x_aloadn C dX8_readAtom_72 rfl ?_
    refine x_getR C fl_X8_9 cl_8 (1) nC74 kC74 fC74_0 dX8_readAtom_73 ?_
    refine x_gsT C 18 (19 : Int32) ft_X8_80 (by decide) dX8_readAtom_76 ?_
    refine x_Vm (st := []) C (c_tp_take  ((19 : Int32)) M2) lk_X8_43 nC1 kC1 ⟨_, _, rfl⟩ rfl rfl (Nat.le_of_ble_eq_true rfl) (rmok_d (by omega) (by decide)) ⟨Nat.zero_le _, Nat.zero_le _⟩ dX8_readAtom_79 (fun v5 M4 => ?_)
    refine x_ifeq C dX8_readAtom_82 (tgt := 104) (by decide) (fun _h => ?_) (fun _h => ?_)
    · refine x_aloadn C dX8_readAtom_104 rfl ?_
      refine x_Vm (st := []) C (c_rd_readSum   M4) lk_X8_89 nC74 kC74 ⟨_, _, rfl⟩ rfl rfl (Nat.le_of_ble_eq_true rfl) (rmok_d (by omega) (by decide)) ⟨Nat.zero_le _, Nat.zero_le _⟩ dX8_readAtom_105 (fun v7 M6 => ?_)
      refine x_ifne C dX8_readAtom_108 (tgt := 113) (by decide) (fun _h => ?_) (fun _h => ?_)
      · refine x_aloadn C dX8_readAtom_113 rfl ?_
        refine x_getR C fl_X8_9 cl_8 (1) nC74 kC74 fC74_0 dX8_readAtom_114 ?_
        refine x_Vq (st := []) C (c_tp_thing   M6) lk_X8_24 nC1 kC1 ⟨_, _, rfl⟩ rfl rfl (Nat.le_of_ble_eq_true rfl) (rmok_d (by omega) (by decide)) ⟨Nat.zero_le _, Nat.zero_le _⟩ dX8_readAtom_117 (fun v8 => ?_)
        refine x_qstoren C dX8_readAtom_120 (L' := [some (.ref ((wC b).2.2.2 + 74)), some (.int p1), none, some (va_rf (ths g v8))]) (ltb rfl) rfl ?_
        refine x_qloadn C dX8_readAtom_121 rfl ?_
        refine x_gsT C 26 (27 : Int32) ft_X8_92 (by decide) dX8_readAtom_122 ?_
        refine x_acmpeq C dX8_readAtom_125 (tgt := 137) (by decide) (fun _h => ?_) (fun _h => ?_)
        · exact x_wk (L' := [some (.ref ((wC b).2.2.2 + 74)), none, none, some (va_rf (ths g v8))]) (And.intro rfl (And.intro rfl trivial)) (w_rd_readAtom_J137 C hself p1  (v8)  M6)
        · refine x_qloadn C dX8_readAtom_128 rfl ?_
          refine x_gsT C 27 (28 : Int32) ft_X8_95 (by decide) dX8_readAtom_129 ?_
          refine x_acmpeq C dX8_readAtom_132 (tgt := 137) (by decide) (fun _h => ?_) (fun _h => ?_)
          · exact x_wk (L' := [some (.ref ((wC b).2.2.2 + 74)), none, none, some (va_rf (ths g v8))]) (And.intro rfl (And.intro rfl trivial)) (w_rd_readAtom_J137 C hself p1  (v8)  M6)
          · refine x_iconst C dX8_readAtom_135 (v := (0 : Int32)) (by decide) ?_
            exact x_zret C dX8_readAtom_136 rfl rfl
      · refine x_iconst C dX8_readAtom_111 (v := (0 : Int32)) (by decide) ?_
        exact x_zret C dX8_readAtom_112 rfl rfl
    · refine x_aloadn C dX8_readAtom_85 rfl ?_
      refine x_iloadn C dX8_readAtom_86 (x := p1) rfl ?_
      refine x_iconst C dX8_readAtom_87 (v := (1 : Int32)) (by decide) ?_
      refine x_iadd C dX8_readAtom_88 ?_
      refine x_Vm (st := []) C (hself ((p1 + (1 : Int32))) M4) lk_X8_74 nC74 kC74 ⟨_, _, rfl⟩ rfl rfl (Nat.le_of_ble_eq_true rfl) (rmok_d (by omega) (by decide)) ⟨Nat.zero_le _, Nat.zero_le _⟩ dX8_readAtom_89 (fun v15 M14 => ?_)
      refine x_istoren C dX8_readAtom_92 (L' := [some (.ref ((wC b).2.2.2 + 74)), some (.int p1), none, some (.int v15)]) (ltb rfl) rfl ?_
      refine x_aloadn C dX8_readAtom_93 rfl ?_
      refine x_getR C fl_X8_15 cl_8 (63) nC74 kC74 fC74_1 dX8_readAtom_94 ?_
      refine x_bipush C dX8_readAtom_97 (v := (-5 : Int32)) (by decide) ?_
      refine x_Vv (st := []) C (c_ru_putStep (Or.inr (Or.inl rfl)) ((-5 : Int32)) M14) lk_X8_68 nC63 kC63 ⟨_, _, rfl⟩ rfl rfl (Nat.le_of_ble_eq_true rfl) (rmok_d (by omega) (by decide)) ⟨Nat.zero_le _, Nat.zero_le _⟩ dX8_readAtom_99 (fun M16 => ?_)
      refine x_iloadn C dX8_readAtom_102 (x := v15) rfl ?_
      exact x_zretc C dX8_readAtom_103 rfl
  · refine x_aloadn C dX8_readAtom_43 rfl ?_
    refine x_iloadn C dX8_readAtom_44 (x := p1) rfl ?_
    refine x_iconst C dX8_readAtom_45 (v := (1 : Int32)) (by decide) ?_
    refine x_iadd C dX8_readAtom_46 ?_
    refine x_Vm (st := []) C (c_rd_readAny hself ((p1 + (1 : Int32))) M2) lk_X8_57 nC74 kC74 ⟨_, _, rfl⟩ rfl rfl (Nat.le_of_ble_eq_true rfl) (rmok_d (by omega) (by decide)) ⟨Nat.zero_le _, Nat.zero_le _⟩ dX8_readAtom_47 (fun v18 M17 => ?_)
    refine x_ifeq C dX8_readAtom_50 (tgt := 70) (by decide) (fun _h => ?_) (fun _h => ?_)
    · refine x_iconst C dX8_readAtom_70 (v := (0 : Int32)) (by decide) ?_
      exact x_zret C dX8_readAtom_71 rfl rfl
    · refine x_aloadn C dX8_readAtom_53 rfl ?_
      refine x_getR C fl_X8_9 cl_8 (1) nC74 kC74 fC74_0 dX8_readAtom_54 ?_
      refine x_gsT C 25 (26 : Int32) ft_X8_86 (by decide) dX8_readAtom_57 ?_
      refine x_Vm (st := []) C (c_tp_take  ((26 : Int32)) M17) lk_X8_43 nC1 kC1 ⟨_, _, rfl⟩ rfl rfl (Nat.le_of_ble_eq_true rfl) (rmok_d (by omega) (by decide)) ⟨Nat.zero_le _, Nat.zero_le _⟩ dX8_readAtom_60 (fun v20 M19 => ?_)
      refine x_ifeq C dX8_readAtom_63 (tgt := 70) (by decide) (fun _h => ?_) (fun _h => ?_)
      · refine x_iconst C dX8_readAtom_70 (v := (0 : Int32)) (by decide) ?_
        exact x_zret C dX8_readAtom_71 rfl rfl
      · refine x_iconst C dX8_readAtom_66 (v := (1 : Int32)) (by decide) ?_
        refine x_goto C dX8_readAtom_67 (tgt := 71) (by decide) ?_
        exact x_zret C dX8_readAtom_71 rfl rfl
set_option maxHeartbeats 4000000 in
set_option maxRecDepth 20000 in
theorem w_rd_readAtom_J22 {z : ZT} {l : Launch} {g : GG} {b : Nat} {self : Int32 → Mem → Option (Int32 × Mem)} {ds : Nat} (C : Cx z l g (wC b) (rmd (ds + 4)) cX8_readAtom 4 RX8 (some .boolean)) (hself : ∀ (a0 : Int32) (M : Mem), CT l g (wC b) (rmd ds) yX8_readAtom cX8_readAtom 4 (some .boolean) [.ref ((wC b).2.2.2 + 74), .int a0] M finM (self a0 M)) (p1 : Int32)  (M : Mem) : XG z g (wC b) 4 (ZQ z g (wC b) finM) 0 0 22 [some (.ref ((wC b).2.2.2 + 74)), some (.int p1), none, none] [] M (rd_readAtom_J22 self p1 M) := by
  rw [rd_readAtom_J22]
  refine x_iloadn C dX8_readAtom_22 (x := p1) rfl ?_
  refine x_bipush C dX8_readAtom_23 (v := (6 : Int32)) (by decide) ?_
  refine x_icmplt C dX8_readAtom_25 (tgt := 30) (by decide) (fun _h => ?_) (fun _h => ?_)
  · exact x_wk (L' := [some (.ref ((wC b).2.2.2 + 74)), some (.int p1), none, none]) (And.intro rfl (And.intro rfl trivial)) (w_rd_readAtom_J30 C hself p1    M)
  · refine x_iconst C dX8_readAtom_28 (v := (0 : Int32)) (by decide) ?_
    exact x_zret C dX8_readAtom_29 rfl rfl
set_option maxHeartbeats 4000000 in
set_option maxRecDepth 20000 in
theorem c_rd_readAtom_S {l : Launch} {g : GG} {b : Nat} {self : Int32 → Mem → Option (Int32 × Mem)} {ds : Nat} (hself : ∀ (a0 : Int32) (M : Mem), CT l g (wC b) (rmd ds) yX8_readAtom cX8_readAtom 4 (some .boolean) [.ref ((wC b).2.2.2 + 74), .int a0] M finM (self a0 M)) (p1 : Int32) (M : Mem) : CT l g (wC b) (rmd (ds + 4)) yX8_readAtom cX8_readAtom 4 (some .boolean) [.ref ((wC b).2.2.2 + 74), .int p1] M finM (rd_readAtom_S self p1 M) := by
  refine CT.of rfl (Nat.le_of_ble_eq_true rfl) (catc rfl (catc rfl cat0)) (fun z C => ?_)
  have C : Cx z l g (wC b) (rmd (ds + 4)) cX8_readAtom 4 RX8 (some .boolean) := C
  refine x_wk (L' := [some (.ref ((wC b).2.2.2 + 74)), some (.int p1), none, none]) (And.intro rfl (And.intro rfl trivial)) ?_
  rw [rd_readAtom_S]
  refine x_aloadn C dX8_readAtom_0 rfl ?_
  refine x_getR C fl_X8_9 cl_8 (1) nC74 kC74 fC74_0 dX8_readAtom_1 ?_
  refine x_Vq (st := []) C (c_tp_thing   M) lk_X8_24 nC1 kC1 ⟨_, _, rfl⟩ rfl rfl (Nat.le_of_ble_eq_true rfl) (rmok_d (by omega) (by decide)) ⟨Nat.zero_le _, Nat.zero_le _⟩ dX8_readAtom_4 (fun v1 => ?_)
  refine x_qstoren C dX8_readAtom_7 (L' := [some (.ref ((wC b).2.2.2 + 74)), some (.int p1), some (va_rf (ths g v1)), none]) (ltb rfl) rfl ?_
  refine x_qloadn C dX8_readAtom_8 rfl ?_
  refine x_gsT C 18 (19 : Int32) ft_X8_80 (by decide) dX8_readAtom_9 ?_
  refine x_acmpeq C dX8_readAtom_12 (tgt := 22) (by decide) (fun _h => ?_) (fun _h => ?_)
  · exact x_wk (L' := [some (.ref ((wC b).2.2.2 + 74)), some (.int p1), none, none]) (And.intro rfl (And.intro rfl trivial)) (w_rd_readAtom_J22 C hself p1    M)
  · refine x_qloadn C dX8_readAtom_15 rfl ?_
    refine x_gsT C 24 (25 : Int32) ft_X8_83 (by decide) dX8_readAtom_16 ?_
    refine x_acmpne C dX8_readAtom_19 (tgt := 30) (by decide) (fun _h => ?_) (fun _h => ?_)
    · exact x_wk (L' := [some (.ref ((wC b).2.2.2 + 74)), some (.int p1), none, none]) (And.intro rfl (And.intro rfl trivial)) (w_rd_readAtom_J30 C hself p1    M)
    · exact x_wk (L' := [some (.ref ((wC b).2.2.2 + 74)), some (.int p1), none, none]) (And.intro rfl (And.intro rfl trivial)) (w_rd_readAtom_J22 C hself p1    M)
theorem c_rd_readAtom {l : Launch} {g : GG} {b : Nat} : ∀ (fu : Nat) (p1 : Int32) (M : Mem), CT l g (wC b) (rmd (1 + 4 * fu)) yX8_readAtom cX8_readAtom 4 (some .boolean) [.ref ((wC b).2.2.2 + 74), .int p1] M finM (rd_readAtom fu p1 M)
  | 0, _, _ => fun _ _ h => by cases h
  | fu + 1, p1, M => c_rd_readAtom_S (ds := 1 + 4 * fu) (c_rd_readAtom fu) p1 M
def rd_readLine (M : Mem) : Option (Int32 × Mem) := (tp_number M).bind fun v1 => bnd2 (tp_take ((2 : Int32)) M) fun v3 M2 => (if v3 = 0 then some ((0 : Int32), M2) else bnd2 (tp_take ((16 : Int32)) M2) fun v5 M4 => (if v5 = 0 then (ru_endLine 63 (v1) M4).bind fun M6 => some ((1 : Int32), M6) else bnd2 (rd_readAny (rd_readAtom FD) ((0 : Int32)) M4) fun v8 M7 => (if v8 = 0 then some ((0 : Int32), M7) else (ru_endLine 63 (v1) M7).bind fun M9 => some ((1 : Int32), M9))))
set_option maxHeartbeats 4000000 in
set_option maxRecDepth 20000 in
theorem c_rd_readLine {l : Launch} {g : GG} {b : Nat} (M : Mem) : CT l g (wC b) (rmd 53) yX8_readLine cX8_readLine 2 (some .boolean) [.ref ((wC b).2.2.2 + 74)] M finM (rd_readLine  M) := by
  refine CT.of rfl (Nat.le_of_ble_eq_true rfl) (catc rfl cat0) (fun z C => ?_)
  have C : Cx z l g (wC b) (rmd 53) cX8_readLine 2 RX8 (some .boolean) := C
  refine x_wk (L' := [some (.ref ((wC b).2.2.2 + 74)), none]) (And.intro rfl trivial) ?_
  rw [rd_readLine]
  refine x_aloadn C dX8_readLine_0 rfl ?_
  refine x_getR C fl_X8_9 cl_8 (1) nC74 kC74 fC74_0 dX8_readLine_1 ?_
  refine x_Vi (st := []) C (c_tp_number   M) lk_X8_47 nC1 kC1 ⟨_, _, rfl⟩ rfl rfl (Nat.le_of_ble_eq_true rfl) (rmok_d (by decide) (by decide)) ⟨Nat.zero_le _, Nat.zero_le _⟩ dX8_readLine_4 (fun v1 => ?_)
  refine x_istoren C dX8_readLine_7 (L' := [some (.ref ((wC b).2.2.2 + 74)), some (.int v1)]) (ltb rfl) rfl ?_
  refine x_aloadn C dX8_readLine_8 rfl ?_
  refine x_getR C fl_X8_9 cl_8 (1) nC74 kC74 fC74_0 dX8_readLine_9 ?_
  refine x_gsT C 1 (2 : Int32) ft_X8_51 (by decide) dX8_readLine_12 ?_
  refine x_Vm (st := []) C (c_tp_take  ((2 : Int32)) M) lk_X8_43 nC1 kC1 ⟨_, _, rfl⟩ rfl rfl (Nat.le_of_ble_eq_true rfl) (rmok_d (by decide) (by decide)) ⟨Nat.zero_le _, Nat.zero_le _⟩ dX8_readLine_15 (fun v3 M2 => ?_)
  refine x_ifne C dX8_readLine_18 (tgt := 23) (by decide) (fun _h => ?_) (fun _h => ?_)
  · refine x_aloadn C dX8_readLine_23 rfl ?_
    refine x_getR C fl_X8_9 cl_8 (1) nC74 kC74 fC74_0 dX8_readLine_24 ?_
    refine x_gsT C 15 (16 : Int32) ft_X8_54 (by decide) dX8_readLine_27 ?_
    refine x_Vm (st := []) C (c_tp_take  ((16 : Int32)) M2) lk_X8_43 nC1 kC1 ⟨_, _, rfl⟩ rfl rfl (Nat.le_of_ble_eq_true rfl) (rmok_d (by decide) (by decide)) ⟨Nat.zero_le _, Nat.zero_le _⟩ dX8_readLine_30 (fun v5 M4 => ?_)
    refine x_ifeq C dX8_readLine_33 (tgt := 46) (by decide) (fun _h => ?_) (fun _h => ?_)
    · refine x_aloadn C dX8_readLine_46 rfl ?_
      refine x_getR C fl_X8_15 cl_8 (63) nC74 kC74 fC74_1 dX8_readLine_47 ?_
      refine x_iloadn C dX8_readLine_50 (x := v1) rfl ?_
      refine x_Vv (st := []) C (c_ru_endLine (Or.inr (Or.inl rfl)) (v1) M4) lk_X8_61 nC63 kC63 ⟨_, _, rfl⟩ rfl rfl (Nat.le_of_ble_eq_true rfl) (rmok_d (by decide) (by decide)) ⟨Nat.zero_le _, Nat.zero_le _⟩ dX8_readLine_51 (fun M6 => ?_)
      refine x_iconst C dX8_readLine_54 (v := (1 : Int32)) (by decide) ?_
      exact x_zret C dX8_readLine_55 rfl rfl
    · refine x_aloadn C dX8_readLine_36 rfl ?_
      refine x_iconst C dX8_readLine_37 (v := (0 : Int32)) (by decide) ?_
      refine x_Vm (st := []) C (c_rd_readAny (c_rd_readAtom FD) ((0 : Int32)) M4) lk_X8_57 nC74 kC74 ⟨_, _, rfl⟩ rfl rfl (Nat.le_of_ble_eq_true rfl) (rmok_d (by decide) (by decide)) ⟨Nat.zero_le _, Nat.zero_le _⟩ dX8_readLine_38 (fun v8 M7 => ?_)
      refine x_ifne C dX8_readLine_41 (tgt := 46) (by decide) (fun _h => ?_) (fun _h => ?_)
      · refine x_aloadn C dX8_readLine_46 rfl ?_
        refine x_getR C fl_X8_15 cl_8 (63) nC74 kC74 fC74_1 dX8_readLine_47 ?_
        refine x_iloadn C dX8_readLine_50 (x := v1) rfl ?_
        refine x_Vv (st := []) C (c_ru_endLine (Or.inr (Or.inl rfl)) (v1) M7) lk_X8_61 nC63 kC63 ⟨_, _, rfl⟩ rfl rfl (Nat.le_of_ble_eq_true rfl) (rmok_d (by decide) (by decide)) ⟨Nat.zero_le _, Nat.zero_le _⟩ dX8_readLine_51 (fun M9 => ?_)
        refine x_iconst C dX8_readLine_54 (v := (1 : Int32)) (by decide) ?_
        exact x_zret C dX8_readLine_55 rfl rfl
      · refine x_iconst C dX8_readLine_44 (v := (0 : Int32)) (by decide) ?_
        exact x_zret C dX8_readLine_45 rfl rfl
  · refine x_iconst C dX8_readLine_21 (v := (0 : Int32)) (by decide) ?_
    exact x_zret C dX8_readLine_22 rfl rfl
def rd_readText_L24  (K : Mem → Option (Int32 × Mem)) : Nat → Int32 → Mem → Option (Int32 × Mem)
  | 0, _, _ => none
  | fu + 1, x1, M => (if x1 < (12 : Int32) then bnd2 (rd_readLine M) fun v4 M3 => (if v4 = 0 then some ((0 : Int32), M3) else (tp_thing M3).bind fun v5 => (if teq v5 (1 : Int32) = true then some ((1 : Int32), M3) else bnd2 (tp_take ((24 : Int32)) M3) fun v7 M6 => (if v7 = 0 then some ((0 : Int32), M6) else rd_readText_L24 K fu ((x1 + (1 : Int32))) (M6)))) else K (M))
def rd_readText (M : Mem) : Option (Int32 × Mem) := (ru_begin 63 M).bind fun M1 => (tp_thing M1).bind fun v2 => (if teq v2 (1 : Int32) = true then some ((1 : Int32), M1) else rd_readText_L24 (fun M9 => some ((0 : Int32), M9)) FU ((0 : Int32)) M1)
set_option maxHeartbeats 4000000 in
set_option maxRecDepth 20000 in
theorem w_rd_readText_L24 {z : ZT} {l : Launch} {g : GG} {b : Nat} (C : Cx z l g (wC b) (rmd 54) cX8_readText 2 RX8 (some .boolean))  {K : Mem → Option (Int32 × Mem)} (hK : ∀ (M : Mem) , XG z g (wC b) 2 (ZQ z g (wC b) finM) 0 0 75 [none, none] [] M (K M)) : ∀ (fu : Nat) (x1 : Int32) (M : Mem), XG z g (wC b) 2 (ZQ z g (wC b) finM) 0 0 24 [some (.ref ((wC b).2.2.2 + 74)), some (.int x1)] [] M (rd_readText_L24 K fu x1 M) := by
  intro fu
  induction fu with
  | zero => intro x1 M; exact x_none
  | succ fu ih =>
    intro x1 M
    rw [rd_readText_L24]
    refine x_iloadn C dX8_readText_24 (x := x1) rfl ?_
    refine x_bipush C dX8_readText_25 (v := (12 : Int32)) (by decide) ?_
    refine x_icmpge C dX8_readText_27 (tgt := 75) (by decide) (fun _h => ?_) (fun _h => ?_)
    · exact x_wk (L' := [none, none]) (trivial) (hK (M))
    · refine x_aloadn C dX8_readText_30 rfl ?_
      refine x_Vm (st := []) C (c_rd_readLine   M) lk_X8_36 nC74 kC74 ⟨_, _, rfl⟩ rfl rfl (Nat.le_of_ble_eq_true rfl) (rmok_d (by decide) (by decide)) ⟨Nat.zero_le _, Nat.zero_le _⟩ dX8_readText_31 (fun v4 M3 => ?_)
      refine x_ifne C dX8_readText_34 (tgt := 39) (by decide) (fun _h => ?_) (fun _h => ?_)
      · refine x_aloadn C dX8_readText_39 rfl ?_
        refine x_getR C fl_X8_9 cl_8 (1) nC74 kC74 fC74_0 dX8_readText_40 ?_
        refine x_Vq (st := []) C (c_tp_thing   M3) lk_X8_24 nC1 kC1 ⟨_, _, rfl⟩ rfl rfl (Nat.le_of_ble_eq_true rfl) (rmok_d (by decide) (by decide)) ⟨Nat.zero_le _, Nat.zero_le _⟩ dX8_readText_43 (fun v5 => ?_)
        refine x_gsT C 0 (1 : Int32) ft_X8_30 (by decide) dX8_readText_46 ?_
        refine x_acmpne C dX8_readText_49 (tgt := 54) (by decide) (fun _h => ?_) (fun _h => ?_)
        · refine x_aloadn C dX8_readText_54 rfl ?_
          refine x_getR C fl_X8_9 cl_8 (1) nC74 kC74 fC74_0 dX8_readText_55 ?_
          refine x_gsT C 23 (24 : Int32) ft_X8_40 (by decide) dX8_readText_58 ?_
          refine x_Vm (st := []) C (c_tp_take  ((24 : Int32)) M3) lk_X8_43 nC1 kC1 ⟨_, _, rfl⟩ rfl rfl (Nat.le_of_ble_eq_true rfl) (rmok_d (by decide) (by decide)) ⟨Nat.zero_le _, Nat.zero_le _⟩ dX8_readText_61 (fun v7 M6 => ?_)
          refine x_ifne C dX8_readText_64 (tgt := 69) (by decide) (fun _h => ?_) (fun _h => ?_)
          · refine x_iinc C dX8_readText_69 (v := (x1 + (1 : Int32))) rfl rfl (L' := [some (.ref ((wC b).2.2.2 + 74)), some (.int (x1 + (1 : Int32)))]) rfl ?_
            refine x_goto C dX8_readText_72 (tgt := 24) (by decide) ?_
            exact x_wk (L' := [some (.ref ((wC b).2.2.2 + 74)), some (.int (x1 + (1 : Int32)))]) (And.intro rfl (And.intro rfl trivial)) (ih ((x1 + (1 : Int32))) (M6))
          · refine x_iconst C dX8_readText_67 (v := (0 : Int32)) (by decide) ?_
            exact x_zret C dX8_readText_68 rfl rfl
        · refine x_iconst C dX8_readText_52 (v := (1 : Int32)) (by decide) ?_
          exact x_zret C dX8_readText_53 rfl rfl
      · refine x_iconst C dX8_readText_37 (v := (0 : Int32)) (by decide) ?_
        exact x_zret C dX8_readText_38 rfl rfl
set_option maxHeartbeats 4000000 in
set_option maxRecDepth 20000 in
theorem c_rd_readText {l : Launch} {g : GG} {b : Nat} (M : Mem) : CT l g (wC b) (rmd 54) yX8_readText cX8_readText 2 (some .boolean) [.ref ((wC b).2.2.2 + 74)] M finM (rd_readText  M) := by
  refine CT.of rfl (Nat.le_of_ble_eq_true rfl) (catc rfl cat0) (fun z C => ?_)
  have C : Cx z l g (wC b) (rmd 54) cX8_readText 2 RX8 (some .boolean) := C
  refine x_wk (L' := [some (.ref ((wC b).2.2.2 + 74)), none]) (And.intro rfl trivial) ?_
  rw [rd_readText]
  refine x_aloadn C dX8_readText_0 rfl ?_
  refine x_getR C fl_X8_15 cl_8 (63) nC74 kC74 fC74_1 dX8_readText_1 ?_
  refine x_Vv (st := []) C (c_ru_begin (Or.inr (Or.inl rfl))  M) lk_X8_19 nC63 kC63 ⟨_, _, rfl⟩ rfl rfl (Nat.le_of_ble_eq_true rfl) (rmok_d (by decide) (by decide)) ⟨Nat.zero_le _, Nat.zero_le _⟩ dX8_readText_4 (fun M1 => ?_)
  refine x_aloadn C dX8_readText_7 rfl ?_
  refine x_getR C fl_X8_9 cl_8 (1) nC74 kC74 fC74_0 dX8_readText_8 ?_
  refine x_Vq (st := []) C (c_tp_thing   M1) lk_X8_24 nC1 kC1 ⟨_, _, rfl⟩ rfl rfl (Nat.le_of_ble_eq_true rfl) (rmok_d (by decide) (by decide)) ⟨Nat.zero_le _, Nat.zero_le _⟩ dX8_readText_11 (fun v2 => ?_)
  refine x_gsT C 0 (1 : Int32) ft_X8_30 (by decide) dX8_readText_14 ?_
  refine x_acmpne C dX8_readText_17 (tgt := 22) (by decide) (fun _h => ?_) (fun _h => ?_)
  · refine x_iconst C dX8_readText_22 (v := (0 : Int32)) (by decide) ?_
    refine x_istoren C dX8_readText_23 (L' := [some (.ref ((wC b).2.2.2 + 74)), some (.int (0 : Int32))]) (ltb rfl) rfl ?_
    refine x_wk (L' := [some (.ref ((wC b).2.2.2 + 74)), some (.int (0 : Int32))]) (And.intro rfl (And.intro rfl trivial)) (w_rd_readText_L24 C    (fun M9 => ?_) FU ((0 : Int32)) M1)
    refine x_iconst C dX8_readText_75 (v := (0 : Int32)) (by decide) ?_
    exact x_zret C dX8_readText_76 rfl rfl
  · refine x_iconst C dX8_readText_20 (v := (1 : Int32)) (by decide) ?_
    exact x_zret C dX8_readText_21 rfl rfl
