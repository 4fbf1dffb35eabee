def rf_feed (p1 : Int32) (p2 : Int32) (p3 : Int32) (p4 : Int32) (p5 : Int32) (M : Mem) : Option (Int32 × Mem) := (if (400 : Int32) < ((M 1 1) + (20 : Int32)) then some ((-1 : Int32), M) else (tp_append (p1) M).bind fun M1 => (tp_append (p2) M1).bind fun M2 => (tp_append (p3) M2).bind fun M3 => (tp_append (p4) M3).bind fun M4 => (tp_append (p5) M4).bind fun M5 => some ((M5 1 1), M5))
set_option maxHeartbeats 4000000 in
set_option maxRecDepth 20000 in
theorem c_rf_feed {l : Launch} {g : GG} {b : Nat} (p1 : Int32) (p2 : Int32) (p3 : Int32) (p4 : Int32) (p5 : Int32) (M : Mem) : CT l g (wC b) (rmd 2) yX11_feed cX11_feed 6 (some .int) [.ref ((wC b).2.2.2 + 0), .int p1, .int p2, .int p3, .int p4, .int p5] M finM (rf_feed p1 p2 p3 p4 p5 M) := by
  refine CT.of rfl (Nat.le_of_ble_eq_true rfl) (catc rfl (catc rfl (catc rfl (catc rfl (catc rfl (catc rfl cat0)))))) (fun z C => ?_)
  have C : Cx z l g (wC b) (rmd 2) cX11_feed 6 RX11 (some .int) := C
  refine x_wk (L' := [some (.ref ((wC b).2.2.2 + 0)), some (.int p1), some (.int p2), some (.int p3), some (.int p4), some (.int p5)]) (And.intro rfl (And.intro rfl (And.intro rfl (And.intro rfl (And.intro rfl (And.intro rfl trivial)))))) ?_
  rw [rf_feed]
  refine x_aloadn C dX11_feed_0 rfl ?_
  refine x_getR C fl_X11_12 cl_10 (1) nC0 kC0 fC0_0 dX11_feed_1 ?_
  refine x_getI C fl_X11_112 cl_9 nC1 kC1 fC1_1 dX11_feed_4 ?_
  refine x_bipush C dX11_feed_7 (v := (20 : Int32)) (by decide) ?_
  refine x_iadd C dX11_feed_9 ?_
  refine x_sipush C dX11_feed_10 (v := (400 : Int32)) (by decide) ?_
  refine x_icmple C dX11_feed_13 (tgt := 18) (by decide) (fun _h => ?_) (fun _h => ?_)
  · refine x_aloadn C dX11_feed_18 rfl ?_
    refine x_getR C fl_X11_12 cl_10 (1) nC0 kC0 fC0_0 dX11_feed_19 ?_
    refine x_iloadn C dX11_feed_22 (x := p1) rfl ?_
    refine x_Vv (st := []) C (c_tp_append  (p1) M) lk_X11_115 nC1 kC1 ⟨_, _, rfl⟩ rfl rfl (Nat.le_of_ble_eq_true rfl) (rmok_d (by decide) (by decide)) ⟨Nat.zero_le _, Nat.zero_le _⟩ dX11_feed_23 (fun M1 => ?_)
    refine x_aloadn C dX11_feed_26 rfl ?_
    refine x_getR C fl_X11_12 cl_10 (1) nC0 kC0 fC0_0 dX11_feed_27 ?_
    refine x_iloadn C dX11_feed_30 (x := p2) rfl ?_
    refine x_Vv (st := []) C (c_tp_append  (p2) M1) lk_X11_115 nC1 kC1 ⟨_, _, rfl⟩ rfl rfl (Nat.le_of_ble_eq_true rfl) (rmok_d (by decide) (by decide)) ⟨Nat.zero_le _, Nat.zero_le _⟩ dX11_feed_31 (fun M2 => ?_)
    refine x_aloadn C dX11_feed_34 rfl ?_
    refine x_getR C fl_X11_12 cl_10 (1) nC0 kC0 fC0_0 dX11_feed_35 ?_
    refine x_iloadn C dX11_feed_38 (x := p3) rfl ?_
    refine x_Vv (st := []) C (c_tp_append  (p3) M2) lk_X11_115 nC1 kC1 ⟨_, _, rfl⟩ rfl rfl (Nat.le_of_ble_eq_true rfl) (rmok_d (by decide) (by decide)) ⟨Nat.zero_le _, Nat.zero_le _⟩ dX11_feed_39 (fun M3 => ?_)
    refine x_aloadn C dX11_feed_42 rfl ?_
    refine x_getR C fl_X11_12 cl_10 (1) nC0 kC0 fC0_0 dX11_feed_43 ?_
    refine x_iload C dX11_feed_46 (x := p4) rfl ?_
    refine x_Vv (st := []) C (c_tp_append  (p4) M3) lk_X11_115 nC1 kC1 ⟨_, _, rfl⟩ rfl rfl (Nat.le_of_ble_eq_true rfl) (rmok_d (by decide) (by decide)) ⟨Nat.zero_le _, Nat.zero_le _⟩ dX11_feed_48 (fun M4 => ?_)
    refine x_aloadn C dX11_feed_51 rfl ?_
    refine x_getR C fl_X11_12 cl_10 (1) nC0 kC0 fC0_0 dX11_feed_52 ?_
    refine x_iload C dX11_feed_55 (x := p5) rfl ?_
    refine x_Vv (st := []) C (c_tp_append  (p5) M4) lk_X11_115 nC1 kC1 ⟨_, _, rfl⟩ rfl rfl (Nat.le_of_ble_eq_true rfl) (rmok_d (by decide) (by decide)) ⟨Nat.zero_le _, Nat.zero_le _⟩ dX11_feed_57 (fun M5 => ?_)
    refine x_aloadn C dX11_feed_60 rfl ?_
    refine x_getR C fl_X11_12 cl_10 (1) nC0 kC0 fC0_0 dX11_feed_61 ?_
    refine x_getI C fl_X11_112 cl_9 nC1 kC1 fC1_1 dX11_feed_64 ?_
    exact x_iret C dX11_feed_67 rfl
  · refine x_iconst C dX11_feed_16 (v := (-1 : Int32)) (by decide) ?_
    exact x_iret C dX11_feed_17 rfl
def rf_end (p1 : Int32) (M : Mem) : Option (Int32 × Mem) := (if p1 < 0 then some ((0 : Int32), M) else (if (M 1 1) < p1 then some ((0 : Int32), M) else lt1 (wr M 1 1 p1) fun M1 => some ((1 : Int32), M1)))
set_option maxHeartbeats 4000000 in
set_option maxRecDepth 20000 in
theorem c_rf_end {l : Launch} {g : GG} {b : Nat} (p1 : Int32) (M : Mem) : CT l g (wC b) (rmd 1) yX11_end cX11_end 2 (some .boolean) [.ref ((wC b).2.2.2 + 0), .int p1] M finM (rf_end p1 M) := by
  refine CT.of rfl (Nat.le_of_ble_eq_true rfl) (catc rfl (catc rfl cat0)) (fun z C => ?_)
  have C : Cx z l g (wC b) (rmd 1) cX11_end 2 RX11 (some .boolean) := C
  refine x_wk (L' := [some (.ref ((wC b).2.2.2 + 0)), some (.int p1)]) (And.intro rfl (And.intro rfl trivial)) ?_
  rw [rf_end]
  refine x_iloadn C dX11_end_0 (x := p1) rfl ?_
  refine x_iflt C dX11_end_1 (tgt := 15) (by decide) (fun _h => ?_) (fun _h => ?_)
  · refine x_iconst C dX11_end_15 (v := (0 : Int32)) (by decide) ?_
    exact x_zret C dX11_end_16 rfl rfl
  · refine x_iloadn C dX11_end_4 (x := p1) rfl ?_
    refine x_aloadn C dX11_end_5 rfl ?_
    refine x_getR C fl_X11_12 cl_10 (1) nC0 kC0 fC0_0 dX11_end_6 ?_
    refine x_getI C fl_X11_112 cl_9 nC1 kC1 fC1_1 dX11_end_9 ?_
    refine x_icmple C dX11_end_12 (tgt := 17) (by decide) (fun _h => ?_) (fun _h => ?_)
    · refine x_aloadn C dX11_end_17 rfl ?_
      refine x_getR C fl_X11_12 cl_10 (1) nC0 kC0 fC0_0 dX11_end_18 ?_
      refine x_iloadn C dX11_end_21 (x := p1) rfl ?_
      refine x_putI C fl_X11_112 cl_9 fint_9_1 nC1 kC1 fC1_1 dX11_end_22 ?_
      refine x_ltM (fun M1 => ?_)
      refine x_iconst C dX11_end_25 (v := (1 : Int32)) (by decide) ?_
      exact x_zret C dX11_end_26 rfl rfl
    · refine x_iconst C dX11_end_15 (v := (0 : Int32)) (by decide) ?_
      exact x_zret C dX11_end_16 rfl rfl
def rf_fault (M : Mem) : Option Int32 := some ((M 0 16))
set_option maxHeartbeats 4000000 in
set_option maxRecDepth 20000 in
theorem c_rf_fault {l : Launch} {g : GG} {b : Nat} (M : Mem) : CT l g (wC b) (rmd 1) yX11_fault cX11_fault 1 (some .int) [.ref ((wC b).2.2.2 + 0)] M (finI M) (rf_fault  M) := by
  refine CT.of rfl (Nat.le_of_ble_eq_true rfl) (catc rfl cat0) (fun z C => ?_)
  have C : Cx z l g (wC b) (rmd 1) cX11_fault 1 RX11 (some .int) := C
  refine x_wk (L' := [some (.ref ((wC b).2.2.2 + 0))]) (And.intro rfl trivial) ?_
  rw [rf_fault]
  refine x_aloadn C dX11_fault_0 rfl ?_
  refine x_getI C fl_X11_108 cl_10 nC0 kC0 fC0_16 dX11_fault_1 ?_
  exact x_iret C dX11_fault_4 rfl
def rf_need (p1 : Int32) (M : Mem) : Option (Int32 × Mem) := (mv_prepare M).bind fun M1 => chk (inb (p1 &&& (M1 75 2)) 1024) ((mv_needFor ((M1 76 (p1 &&& (M1 75 2)).toNatClampNeg)) M1).bind fun v2 => some (v2, M1))
set_option maxHeartbeats 4000000 in
set_option maxRecDepth 20000 in
theorem c_rf_need {l : Launch} {g : GG} {b : Nat} (p1 : Int32) (M : Mem) : CT l g (wC b) (rmd 4) yX11_need cX11_need 2 (some .int) [.ref ((wC b).2.2.2 + 0), .int p1] M finM (rf_need p1 M) := by
  refine CT.of rfl (Nat.le_of_ble_eq_true rfl) (catc rfl (catc rfl cat0)) (fun z C => ?_)
  have C : Cx z l g (wC b) (rmd 4) cX11_need 2 RX11 (some .int) := C
  refine x_wk (L' := [some (.ref ((wC b).2.2.2 + 0)), some (.int p1)]) (And.intro rfl (And.intro rfl trivial)) ?_
  rw [rf_need]
  refine x_aloadn C dX11_need_0 rfl ?_
  refine x_getR C fl_X11_75 cl_10 (75) nC0 kC0 fC0_11 dX11_need_1 ?_
  refine x_Vv (st := []) C (c_mv_prepare   M) lk_X11_199 nC75 kC75 ⟨_, _, rfl⟩ rfl rfl (Nat.le_of_ble_eq_true rfl) (rmok_d (by decide) (by decide)) ⟨Nat.zero_le _, Nat.zero_le _⟩ dX11_need_4 (fun M1 => ?_)
  refine x_aloadn C dX11_need_7 rfl ?_
  refine x_getR C fl_X11_75 cl_10 (75) nC0 kC0 fC0_11 dX11_need_8 ?_
  refine x_aloadn C dX11_need_11 rfl ?_
  refine x_getR C fl_X11_75 cl_10 (75) nC0 kC0 fC0_11 dX11_need_12 ?_
  refine x_getR C fl_X11_202 cl_2 (76) nC75 kC75 fC75_4 dX11_need_15 ?_
  refine x_iloadn C dX11_need_18 (x := p1) rfl ?_
  refine x_aloadn C dX11_need_19 rfl ?_
  refine x_getR C fl_X11_75 cl_10 (75) nC0 kC0 fC0_11 dX11_need_20 ?_
  refine x_getI C fl_X11_205 cl_2 nC75 kC75 fC75_2 dX11_need_23 ?_
  refine x_iand C dX11_need_26 ?_
  refine x_iald C nC76 kC76 dX11_need_27 ?_
  refine x_Vi (st := []) C (c_mv_needFor  ((M1 76 (p1 &&& (M1 75 2)).toNatClampNeg)) M1) lk_X11_208 nC75 kC75 ⟨_, _, rfl⟩ rfl rfl (Nat.le_of_ble_eq_true rfl) (rmok_d (by decide) (by decide)) ⟨Nat.zero_le _, Nat.zero_le _⟩ dX11_need_28 (fun v2 => ?_)
  exact x_iret C dX11_need_31 rfl
def rf_may (p1 : Int32) (M : Mem) : Option Int32 := (rv_everyone 6 M).bind fun v1 => (rv_isPeaceful 6 ((p1 &&& v1)) M).bind fun v2 => chk (isB v2) (some (v2))
set_option maxHeartbeats 4000000 in
set_option maxRecDepth 20000 in
theorem c_rf_may {l : Launch} {g : GG} {b : Nat} (p1 : Int32) (M : Mem) : CT l g (wC b) (rmd 2) yX11_may cX11_may 2 (some .boolean) [.ref ((wC b).2.2.2 + 0), .int p1] M (finI M) (rf_may p1 M) := by
  refine CT.of rfl (Nat.le_of_ble_eq_true rfl) (catc rfl (catc rfl cat0)) (fun z C => ?_)
  have C : Cx z l g (wC b) (rmd 2) cX11_may 2 RX11 (some .boolean) := C
  refine x_wk (L' := [some (.ref ((wC b).2.2.2 + 0)), some (.int p1)]) (And.intro rfl (And.intro rfl trivial)) ?_
  rw [rf_may]
  refine x_aloadn C dX11_may_0 rfl ?_
  refine x_getR C fl_X11_19 cl_10 (6) nC0 kC0 fC0_1 dX11_may_1 ?_
  refine x_iloadn C dX11_may_4 (x := p1) rfl ?_
  refine x_aloadn C dX11_may_5 rfl ?_
  refine x_getR C fl_X11_19 cl_10 (6) nC0 kC0 fC0_1 dX11_may_6 ?_
  refine x_Vi (st := [.int p1, .ref ((wC b).2.2.2 + 6)]) C (c_rv_everyone (Or.inl rfl)  M) lk_X11_248 nC6 kC6 ⟨_, _, rfl⟩ rfl rfl (Nat.le_of_ble_eq_true rfl) (rmok_d (by decide) (by decide)) ⟨Nat.zero_le _, Nat.zero_le _⟩ dX11_may_9 (fun v1 => ?_)
  refine x_iand C dX11_may_12 ?_
  refine x_Vi (st := []) C (c_rv_isPeaceful (Or.inl rfl) ((p1 &&& v1)) M) lk_X11_250 nC6 kC6 ⟨_, _, rfl⟩ rfl rfl (Nat.le_of_ble_eq_true rfl) (rmok_d (by decide) (by decide)) ⟨Nat.zero_le _, Nat.zero_le _⟩ dX11_may_13 (fun v2 => ?_)
  exact x_zretc C dX11_may_16 rfl
def rf_findPlan (p1 : Int32) (p2 : Int32) (M : Mem) : Option (Int32 × Mem) := (mv_prepare M).bind fun M1 => (bk_state 30 M1).bind fun v2 => bnd2 (pl_search (v2) ((p1 &&& (M1 75 2))) (p2) M1) fun v4 M3 => chk (isB v4) (some (v4, M3))
set_option maxHeartbeats 4000000 in
set_option maxRecDepth 20000 in
theorem c_rf_findPlan {l : Launch} {g : GG} {b : Nat} (p1 : Int32) (p2 : Int32) (M : Mem) : CT l g (wC b) (rmd 7) yX11_findPlan cX11_findPlan 3 (some .boolean) [.ref ((wC b).2.2.2 + 0), .int p1, .int p2] M finM (rf_findPlan p1 p2 M) := by
  refine CT.of rfl (Nat.le_of_ble_eq_true rfl) (catc rfl (catc rfl (catc rfl cat0))) (fun z C => ?_)
  have C : Cx z l g (wC b) (rmd 7) cX11_findPlan 3 RX11 (some .boolean) := C
  refine x_wk (L' := [some (.ref ((wC b).2.2.2 + 0)), some (.int p1), some (.int p2)]) (And.intro rfl (And.intro rfl (And.intro rfl trivial))) ?_
  rw [rf_findPlan]
  refine x_aloadn C dX11_findPlan_0 rfl ?_
  refine x_getR C fl_X11_75 cl_10 (75) nC0 kC0 fC0_11 dX11_findPlan_1 ?_
  refine x_Vv (st := []) C (c_mv_prepare   M) lk_X11_199 nC75 kC75 ⟨_, _, rfl⟩ rfl rfl (Nat.le_of_ble_eq_true rfl) (rmok_d (by decide) (by decide)) ⟨Nat.zero_le _, Nat.zero_le _⟩ dX11_findPlan_4 (fun M1 => ?_)
  refine x_aloadn C dX11_findPlan_7 rfl ?_
  refine x_getR C fl_X11_84 cl_10 (82) nC0 kC0 fC0_12 dX11_findPlan_8 ?_
  refine x_aloadn C dX11_findPlan_11 rfl ?_
  refine x_getR C fl_X11_32 cl_10 (30) nC0 kC0 fC0_4 dX11_findPlan_12 ?_
  refine x_Vi (st := [.ref ((wC b).2.2.2 + 82)]) C (c_bk_state (Or.inl rfl)  M1) lk_X11_211 nC30 kC30 ⟨_, _, rfl⟩ rfl rfl (Nat.le_of_ble_eq_true rfl) (rmok_d (by decide) (by decide)) ⟨Nat.zero_le _, Nat.zero_le _⟩ dX11_findPlan_15 (fun v2 => ?_)
  refine x_iloadn C dX11_findPlan_18 (x := p1) rfl ?_
  refine x_aloadn C dX11_findPlan_19 rfl ?_
  refine x_getR C fl_X11_75 cl_10 (75) nC0 kC0 fC0_11 dX11_findPlan_20 ?_
  refine x_getI C fl_X11_205 cl_2 nC75 kC75 fC75_2 dX11_findPlan_23 ?_
  refine x_iand C dX11_findPlan_26 ?_
  refine x_iloadn C dX11_findPlan_27 (x := p2) rfl ?_
  refine x_Vm (st := []) C (c_pl_search  (v2) ((p1 &&& (M1 75 2))) (p2) M1) lk_X11_332 nC82 kC82 ⟨_, _, rfl⟩ rfl rfl (Nat.le_of_ble_eq_true rfl) (rmok_d (by decide) (by decide)) ⟨Nat.zero_le _, Nat.zero_le _⟩ dX11_findPlan_28 (fun v4 M3 => ?_)
  exact x_zretc C dX11_findPlan_31 rfl
def rf_row (p1 : Int32) (p2 : Int32) (p3 : Int32) (M : Mem) : Option (Int32 × Mem) := bnd2 (rf_findPlan (p1) (p2) M) fun v2 M1 => (if v2 = 0 then some ((-1 : Int32), M1) else bnd2 (pl_step (p3) M1) fun v4 M3 => some (v4, M3))
set_option maxHeartbeats 4000000 in
set_option maxRecDepth 20000 in
theorem c_rf_row {l : Launch} {g : GG} {b : Nat} (p1 : Int32) (p2 : Int32) (p3 : Int32) (M : Mem) : CT l g (wC b) (rmd 8) yX11_row cX11_row 4 (some .int) [.ref ((wC b).2.2.2 + 0), .int p1, .int p2, .int p3] M finM (rf_row p1 p2 p3 M) := by
  refine CT.of rfl (Nat.le_of_ble_eq_true rfl) (catc rfl (catc rfl (catc rfl (catc rfl cat0)))) (fun z C => ?_)
  have C : Cx z l g (wC b) (rmd 8) cX11_row 4 RX11 (some .int) := C
  refine x_wk (L' := [some (.ref ((wC b).2.2.2 + 0)), some (.int p1), some (.int p2), some (.int p3)]) (And.intro rfl (And.intro rfl (And.intro rfl (And.intro rfl trivial)))) ?_
  rw [rf_row]
  refine x_aloadn C dX11_row_0 rfl ?_
  refine x_iloadn C dX11_row_1 (x := p1) rfl ?_
  refine x_iloadn C dX11_row_2 (x := p2) rfl ?_
  refine x_Vm (st := []) C (c_rf_findPlan  (p1) (p2) M) lk_X11_262 nC0 kC0 ⟨_, _, rfl⟩ rfl rfl (Nat.le_of_ble_eq_true rfl) (rmok_d (by decide) (by decide)) ⟨Nat.zero_le _, Nat.zero_le _⟩ dX11_row_3 (fun v2 M1 => ?_)
  refine x_ifne C dX11_row_6 (tgt := 11) (by decide) (fun _h => ?_) (fun _h => ?_)
  · refine x_aloadn C dX11_row_11 rfl ?_
    refine x_getR C fl_X11_84 cl_10 (82) nC0 kC0 fC0_12 dX11_row_12 ?_
    refine x_iloadn C dX11_row_15 (x := p3) rfl ?_
    refine x_Vm (st := []) C (c_pl_step  (p3) M1) lk_X11_272 nC82 kC82 ⟨_, _, rfl⟩ rfl rfl (Nat.le_of_ble_eq_true rfl) (rmok_d (by decide) (by decide)) ⟨Nat.zero_le _, Nat.zero_le _⟩ dX11_row_16 (fun v4 M3 => ?_)
    exact x_iret C dX11_row_19 rfl
  · refine x_iconst C dX11_row_9 (v := (-1 : Int32)) (by decide) ?_
    exact x_iret C dX11_row_10 rfl
def rf_left (M : Mem) : Option (Int32 × Mem) := (mv_prepare M).bind fun M1 => (bk_state 30 M1).bind fun v2 => bnd2 (pl_leastLeft (v2) M1) fun v4 M3 => some (v4, M3)
set_option maxHeartbeats 4000000 in
set_option maxRecDepth 20000 in
theorem c_rf_left {l : Launch} {g : GG} {b : Nat} (M : Mem) : CT l g (wC b) (rmd 8) yX11_left cX11_left 1 (some .int) [.ref ((wC b).2.2.2 + 0)] M finM (rf_left  M) := by
  refine CT.of rfl (Nat.le_of_ble_eq_true rfl) (catc rfl cat0) (fun z C => ?_)
  have C : Cx z l g (wC b) (rmd 8) cX11_left 1 RX11 (some .int) := C
  refine x_wk (L' := [some (.ref ((wC b).2.2.2 + 0))]) (And.intro rfl trivial) ?_
  rw [rf_left]
  refine x_aloadn C dX11_left_0 rfl ?_
  refine x_getR C fl_X11_75 cl_10 (75) nC0 kC0 fC0_11 dX11_left_1 ?_
  refine x_Vv (st := []) C (c_mv_prepare   M) lk_X11_199 nC75 kC75 ⟨_, _, rfl⟩ rfl rfl (Nat.le_of_ble_eq_true rfl) (rmok_d (by decide) (by decide)) ⟨Nat.zero_le _, Nat.zero_le _⟩ dX11_left_4 (fun M1 => ?_)
  refine x_aloadn C dX11_left_7 rfl ?_
  refine x_getR C fl_X11_84 cl_10 (82) nC0 kC0 fC0_12 dX11_left_8 ?_
  refine x_aloadn C dX11_left_11 rfl ?_
  refine x_getR C fl_X11_32 cl_10 (30) nC0 kC0 fC0_4 dX11_left_12 ?_
  refine x_Vi (st := [.ref ((wC b).2.2.2 + 82)]) C (c_bk_state (Or.inl rfl)  M1) lk_X11_211 nC30 kC30 ⟨_, _, rfl⟩ rfl rfl (Nat.le_of_ble_eq_true rfl) (rmok_d (by decide) (by decide)) ⟨Nat.zero_le _, Nat.zero_le _⟩ dX11_left_15 (fun v2 => ?_)
  refine x_Vm (st := []) C (c_pl_leastLeft  (v2) M1) lk_X11_275 nC82 kC82 ⟨_, _, rfl⟩ rfl rfl (Nat.le_of_ble_eq_true rfl) (rmok_d (by decide) (by decide)) ⟨Nat.zero_le _, Nat.zero_le _⟩ dX11_left_18 (fun v4 M3 => ?_)
  exact x_iret C dX11_left_21 rfl
def rf_image (M : Mem) : Option Mem := (rv_copyFrom 22 6 M).bind fun M1 => (bk_copyFrom 44 30 M1).bind fun M2 => (ru_copyFrom 68 58 M2).bind fun M3 => lt1 (wr M3 0 15 (1 : Int32)) fun M4 => some M4
set_option maxHeartbeats 4000000 in
set_option maxRecDepth 20000 in
theorem c_rf_image {l : Launch} {g : GG} {b : Nat} (M : Mem) : CT l g (wC b) (rmd 2) yX11_image cX11_image 1 none [.ref ((wC b).2.2.2 + 0)] M finV (rf_image  M) := by
  refine CT.of rfl (Nat.le_of_ble_eq_true rfl) (catc rfl cat0) (fun z C => ?_)
  have C : Cx z l g (wC b) (rmd 2) cX11_image 1 RX11 none := C
  refine x_wk (L' := [some (.ref ((wC b).2.2.2 + 0))]) (And.intro rfl trivial) ?_
  rw [rf_image]
  refine x_aloadn C dX11_image_0 rfl ?_
  refine x_getR C fl_X11_26 cl_10 (22) nC0 kC0 fC0_3 dX11_image_1 ?_
  refine x_aloadn C dX11_image_4 rfl ?_
  refine x_getR C fl_X11_19 cl_10 (6) nC0 kC0 fC0_1 dX11_image_5 ?_
  refine x_Vv (st := []) C (c_rv_copyFrom (Or.inr (Or.inr rfl)) (Or.inl rfl)  M) lk_X11_119 nC22 kC22 ⟨_, _, rfl⟩ rfl rfl (Nat.le_of_ble_eq_true rfl) (rmok_d (by decide) (by decide)) ⟨Nat.zero_le _, Nat.zero_le _⟩ dX11_image_8 (fun M1 => ?_)
  refine x_aloadn C dX11_image_11 rfl ?_
  refine x_getR C fl_X11_36 cl_10 (44) nC0 kC0 fC0_5 dX11_image_12 ?_
  refine x_aloadn C dX11_image_15 rfl ?_
  refine x_getR C fl_X11_32 cl_10 (30) nC0 kC0 fC0_4 dX11_image_16 ?_
  refine x_Vv (st := []) C (c_bk_copyFrom (Or.inr rfl) (Or.inl rfl)  M1) lk_X11_299 nC44 kC44 ⟨_, _, rfl⟩ rfl rfl (Nat.le_of_ble_eq_true rfl) (rmok_d (by decide) (by decide)) ⟨Nat.zero_le _, Nat.zero_le _⟩ dX11_image_19 (fun M2 => ?_)
  refine x_aloadn C dX11_image_22 rfl ?_
  refine x_getR C fl_X11_49 cl_10 (68) nC0 kC0 fC0_8 dX11_image_23 ?_
  refine x_aloadn C dX11_image_26 rfl ?_
  refine x_getR C fl_X11_42 cl_10 (58) nC0 kC0 fC0_6 dX11_image_27 ?_
  refine x_Vv (st := []) C (c_ru_copyFrom (Or.inr (Or.inr rfl)) (Or.inl rfl)  M2) lk_X11_152 nC68 kC68 ⟨_, _, rfl⟩ rfl rfl (Nat.le_of_ble_eq_true rfl) (rmok_d (by decide) (by decide)) ⟨Nat.zero_le _, Nat.zero_le _⟩ dX11_image_30 (fun M3 => ?_)
  refine x_aloadn C dX11_image_33 rfl ?_
  refine x_iconst C dX11_image_34 (v := (1 : Int32)) (by decide) ?_
  refine x_putB C fl_X11_104 cl_10 fboo_10_15 nC0 kC0 fC0_15 dX11_image_35 (by decide) ?_
  refine x_ltM (fun M4 => ?_)
  exact x_vret C dX11_image_38 rfl
def rf_back (M : Mem) : Option (Int32 × Mem) := (if (M 0 15) = 0 then some ((0 : Int32), M) else (rv_copyFrom 6 22 M).bind fun M1 => (bk_copyFrom 30 44 M1).bind fun M2 => (ru_copyFrom 58 68 M2).bind fun M3 => some ((1 : Int32), M3))
set_option maxHeartbeats 4000000 in
set_option maxRecDepth 20000 in
theorem c_rf_back {l : Launch} {g : GG} {b : Nat} (M : Mem) : CT l g (wC b) (rmd 2) yX11_back cX11_back 1 (some .boolean) [.ref ((wC b).2.2.2 + 0)] M finM (rf_back  M) := by
  refine CT.of rfl (Nat.le_of_ble_eq_true rfl) (catc rfl cat0) (fun z C => ?_)
  have C : Cx z l g (wC b) (rmd 2) cX11_back 1 RX11 (some .boolean) := C
  refine x_wk (L' := [some (.ref ((wC b).2.2.2 + 0))]) (And.intro rfl trivial) ?_
  rw [rf_back]
  refine x_aloadn C dX11_back_0 rfl ?_
  refine x_getI C fl_X11_104 cl_10 nC0 kC0 fC0_15 dX11_back_1 ?_
  refine x_ifne C dX11_back_4 (tgt := 9) (by decide) (fun _h => ?_) (fun _h => ?_)
  · refine x_aloadn C dX11_back_9 rfl ?_
    refine x_getR C fl_X11_19 cl_10 (6) nC0 kC0 fC0_1 dX11_back_10 ?_
    refine x_aloadn C dX11_back_13 rfl ?_
    refine x_getR C fl_X11_26 cl_10 (22) nC0 kC0 fC0_3 dX11_back_14 ?_
    refine x_Vv (st := []) C (c_rv_copyFrom (Or.inl rfl) (Or.inr (Or.inr rfl))  M) lk_X11_119 nC6 kC6 ⟨_, _, rfl⟩ rfl rfl (Nat.le_of_ble_eq_true rfl) (rmok_d (by decide) (by decide)) ⟨Nat.zero_le _, Nat.zero_le _⟩ dX11_back_17 (fun M1 => ?_)
    refine x_aloadn C dX11_back_20 rfl ?_
    refine x_getR C fl_X11_32 cl_10 (30) nC0 kC0 fC0_4 dX11_back_21 ?_
    refine x_aloadn C dX11_back_24 rfl ?_
    refine x_getR C fl_X11_36 cl_10 (44) nC0 kC0 fC0_5 dX11_back_25 ?_
    refine x_Vv (st := []) C (c_bk_copyFrom (Or.inl rfl) (Or.inr rfl)  M1) lk_X11_299 nC30 kC30 ⟨_, _, rfl⟩ rfl rfl (Nat.le_of_ble_eq_true rfl) (rmok_d (by decide) (by decide)) ⟨Nat.zero_le _, Nat.zero_le _⟩ dX11_back_28 (fun M2 => ?_)
    refine x_aloadn C dX11_back_31 rfl ?_
    refine x_getR C fl_X11_42 cl_10 (58) nC0 kC0 fC0_6 dX11_back_32 ?_
    refine x_aloadn C dX11_back_35 rfl ?_
    refine x_getR C fl_X11_49 cl_10 (68) nC0 kC0 fC0_8 dX11_back_36 ?_
    refine x_Vv (st := []) C (c_ru_copyFrom (Or.inl rfl) (Or.inr (Or.inr rfl))  M2) lk_X11_152 nC58 kC58 ⟨_, _, rfl⟩ rfl rfl (Nat.le_of_ble_eq_true rfl) (rmok_d (by decide) (by decide)) ⟨Nat.zero_le _, Nat.zero_le _⟩ dX11_back_39 (fun M3 => ?_)
    refine x_iconst C dX11_back_42 (v := (1 : Int32)) (by decide) ?_
    exact x_zret C dX11_back_43 rfl rfl
  · refine x_iconst C dX11_back_7 (v := (0 : Int32)) (by decide) ?_
    exact x_zret C dX11_back_8 rfl rfl
def rf_count (p1 : Int32) (M : Mem) : Option Int32 := (if p1 = (0 : Int32) then some ((M 6 1)) else (if p1 = (1 : Int32) then some ((M 6 0)) else (if p1 = (2 : Int32) then some ((M 30 2)) else (if p1 = (3 : Int32) then some ((M 30 1)) else (if p1 = (4 : Int32) then some ((M 30 0)) else (if p1 = (5 : Int32) then (bk_hour 30 M).bind fun v1 => chk (inb v1 24) (some ((M 10 v1.toNatClampNeg))) else (if p1 = (6 : Int32) then some ((M 6 6)) else (if p1 = (7 : Int32) then some ((M 6 7)) else (if p1 = (8 : Int32) then some ((M 6 8)) else (if p1 = (9 : Int32) then some ((M 58 0)) else (if p1 = (10 : Int32) then some ((M 30 3)) else (if p1 = (11 : Int32) then some ((M 30 4)) else some ((-1 : Int32))))))))))))))
set_option maxHeartbeats 4000000 in
set_option maxRecDepth 20000 in
theorem c_rf_count {l : Launch} {g : GG} {b : Nat} (p1 : Int32) (M : Mem) : CT l g (wC b) (rmd 3) yX11_count cX11_count 2 (some .int) [.ref ((wC b).2.2.2 + 0), .int p1] M (finI M) (rf_count p1 M) := by
  refine CT.of rfl (Nat.le_of_ble_eq_true rfl) (catc rfl (catc rfl cat0)) (fun z C => ?_)
  have C : Cx z l g (wC b) (rmd 3) cX11_count 2 RX11 (some .int) := C
  refine x_wk (L' := [some (.ref ((wC b).2.2.2 + 0)), some (.int p1)]) (And.intro rfl (And.intro rfl trivial)) ?_
  rw [rf_count]
  refine x_iloadn C dX11_count_0 (x := p1) rfl ?_
  refine x_ite (fun h9 => ?_) (fun h_0 => ?_)
  · refine x_tsIn C dX11_count_1 h9 (by decide) (by decide) rfl (tgt := 64) (by decide) ?_
    refine x_aloadn C dX11_count_64 rfl ?_
    refine x_getR C fl_X11_19 cl_10 (6) nC0 kC0 fC0_1 dX11_count_65 ?_
    refine x_getI C fl_X11_302 cl_5 nC6 kC6 fC6_1 dX11_count_68 ?_
    exact x_iret C dX11_count_71 rfl
  · refine x_ite (fun h9 => ?_) (fun h_1 => ?_)
    · refine x_tsIn C dX11_count_1 h9 (by decide) (by decide) rfl (tgt := 72) (by decide) ?_
      refine x_aloadn C dX11_count_72 rfl ?_
      refine x_getR C fl_X11_19 cl_10 (6) nC0 kC0 fC0_1 dX11_count_73 ?_
      refine x_getI C fl_X11_141 cl_5 nC6 kC6 fC6_0 dX11_count_76 ?_
      exact x_iret C dX11_count_79 rfl
    · refine x_ite (fun h9 => ?_) (fun h_2 => ?_)
      · refine x_tsIn C dX11_count_1 h9 (by decide) (by decide) rfl (tgt := 80) (by decide) ?_
        refine x_aloadn C dX11_count_80 rfl ?_
        refine x_getR C fl_X11_32 cl_10 (30) nC0 kC0 fC0_4 dX11_count_81 ?_
        refine x_getI C fl_X11_245 cl_0 nC30 kC30 fC30_2 dX11_count_84 ?_
        exact x_iret C dX11_count_87 rfl
      · refine x_ite (fun h9 => ?_) (fun h_3 => ?_)
        · refine x_tsIn C dX11_count_1 h9 (by decide) (by decide) rfl (tgt := 88) (by decide) ?_
          refine x_aloadn C dX11_count_88 rfl ?_
          refine x_getR C fl_X11_32 cl_10 (30) nC0 kC0 fC0_4 dX11_count_89 ?_
          refine x_getI C fl_X11_305 cl_0 nC30 kC30 fC30_1 dX11_count_92 ?_
          exact x_iret C dX11_count_95 rfl
        · refine x_ite (fun h9 => ?_) (fun h_4 => ?_)
          · refine x_tsIn C dX11_count_1 h9 (by decide) (by decide) rfl (tgt := 96) (by decide) ?_
            refine x_aloadn C dX11_count_96 rfl ?_
            refine x_getR C fl_X11_32 cl_10 (30) nC0 kC0 fC0_4 dX11_count_97 ?_
            refine x_getI C fl_X11_187 cl_0 nC30 kC30 fC30_0 dX11_count_100 ?_
            exact x_iret C dX11_count_103 rfl
          · refine x_ite (fun h9 => ?_) (fun h_5 => ?_)
            · refine x_tsIn C dX11_count_1 h9 (by decide) (by decide) rfl (tgt := 104) (by decide) ?_
              refine x_aloadn C dX11_count_104 rfl ?_
              refine x_getR C fl_X11_19 cl_10 (6) nC0 kC0 fC0_1 dX11_count_105 ?_
              refine x_getR C fl_X11_308 cl_5 (10) nC6 kC6 fC6_9 dX11_count_108 ?_
              refine x_aloadn C dX11_count_111 rfl ?_
              refine x_getR C fl_X11_32 cl_10 (30) nC0 kC0 fC0_4 dX11_count_112 ?_
              refine x_Vi (st := [.ref ((wC b).2.2.2 + 10)]) C (c_bk_hour (Or.inl rfl)  M) lk_X11_311 nC30 kC30 ⟨_, _, rfl⟩ rfl rfl (Nat.le_of_ble_eq_true rfl) (rmok_d (by decide) (by decide)) ⟨Nat.zero_le _, Nat.zero_le _⟩ dX11_count_115 (fun v1 => ?_)
              refine x_iald C nC10 kC10 dX11_count_118 ?_
              exact x_iret C dX11_count_119 rfl
            · refine x_ite (fun h9 => ?_) (fun h_6 => ?_)
              · refine x_tsIn C dX11_count_1 h9 (by decide) (by decide) rfl (tgt := 120) (by decide) ?_
                refine x_aloadn C dX11_count_120 rfl ?_
                refine x_getR C fl_X11_19 cl_10 (6) nC0 kC0 fC0_1 dX11_count_121 ?_
                refine x_getI C fl_X11_314 cl_5 nC6 kC6 fC6_6 dX11_count_124 ?_
                exact x_iret C dX11_count_127 rfl
              · refine x_ite (fun h9 => ?_) (fun h_7 => ?_)
                · refine x_tsIn C dX11_count_1 h9 (by decide) (by decide) rfl (tgt := 128) (by decide) ?_
                  refine x_aloadn C dX11_count_128 rfl ?_
                  refine x_getR C fl_X11_19 cl_10 (6) nC0 kC0 fC0_1 dX11_count_129 ?_
                  refine x_getI C fl_X11_317 cl_5 nC6 kC6 fC6_7 dX11_count_132 ?_
                  exact x_iret C dX11_count_135 rfl
                · refine x_ite (fun h9 => ?_) (fun h_8 => ?_)
                  · refine x_tsIn C dX11_count_1 h9 (by decide) (by decide) rfl (tgt := 136) (by decide) ?_
                    refine x_aloadn C dX11_count_136 rfl ?_
                    refine x_getR C fl_X11_19 cl_10 (6) nC0 kC0 fC0_1 dX11_count_137 ?_
                    refine x_getI C fl_X11_320 cl_5 nC6 kC6 fC6_8 dX11_count_140 ?_
                    exact x_iret C dX11_count_143 rfl
                  · refine x_ite (fun h9 => ?_) (fun h_9 => ?_)
                    · refine x_tsIn C dX11_count_1 h9 (by decide) (by decide) rfl (tgt := 144) (by decide) ?_
                      refine x_aloadn C dX11_count_144 rfl ?_
                      refine x_getR C fl_X11_42 cl_10 (58) nC0 kC0 fC0_6 dX11_count_145 ?_
                      refine x_getI C fl_X11_155 cl_7 nC58 kC58 fC58_0 dX11_count_148 ?_
                      exact x_iret C dX11_count_151 rfl
                    · refine x_ite (fun h9 => ?_) (fun h_10 => ?_)
                      · refine x_tsIn C dX11_count_1 h9 (by decide) (by decide) rfl (tgt := 152) (by decide) ?_
                        refine x_aloadn C dX11_count_152 rfl ?_
                        refine x_getR C fl_X11_32 cl_10 (30) nC0 kC0 fC0_4 dX11_count_153 ?_
                        refine x_getI C fl_X11_323 cl_0 nC30 kC30 fC30_3 dX11_count_156 ?_
                        exact x_iret C dX11_count_159 rfl
                      · refine x_ite (fun h9 => ?_) (fun h_11 => ?_)
                        · refine x_tsIn C dX11_count_1 h9 (by decide) (by decide) rfl (tgt := 160) (by decide) ?_
                          refine x_aloadn C dX11_count_160 rfl ?_
                          refine x_getR C fl_X11_32 cl_10 (30) nC0 kC0 fC0_4 dX11_count_161 ?_
                          refine x_getI C fl_X11_326 cl_0 nC30 kC30 fC30_4 dX11_count_164 ?_
                          exact x_iret C dX11_count_167 rfl
                        · refine x_tsOut C dX11_count_1 (ts_out (fun j h1 h2 => ?_)) (tgt := 168) (by decide) ?_
                          · have hj : j = 0 ∨ j = 1 ∨ j = 2 ∨ j = 3 ∨ j = 4 ∨ j = 5 ∨ j = 6 ∨ j = 7 ∨ j = 8 ∨ j = 9 ∨ j = 10 ∨ j = 11 := by omega
                            rcases hj with rfl | rfl | rfl | rfl | rfl | rfl | rfl | rfl | rfl | rfl | rfl | rfl
                            · exact h_0
                            · exact h_1
                            · exact h_2
                            · exact h_3
                            · exact h_4
                            · exact h_5
                            · exact h_6
                            · exact h_7
                            · exact h_8
                            · exact h_9
                            · exact h_10
                            · exact h_11
                          · refine x_iconst C dX11_count_168 (v := (-1 : Int32)) (by decide) ?_
                            exact x_iret C dX11_count_169 rfl
def rf_endReading (p1 : Int32) (M : Mem) : Option Mem := (if p1 = 0 then (tp_start M).bind fun v1 => lt1 (wr M 0 16 v1) fun M2 => lt1 (wr M2 1 1 (0 : Int32)) fun M3 => some M3 else lt1 (wr M 0 16 (-1 : Int32)) fun M4 => lt1 (wr M4 1 1 (0 : Int32)) fun M5 => some M5)
set_option maxHeartbeats 4000000 in
set_option maxRecDepth 20000 in
theorem c_rf_endReading {l : Launch} {g : GG} {b : Nat} (p1 : Int32) (M : Mem) : CT l g (wC b) (rmd 2) yX11_endReading cX11_endReading 2 none [.ref ((wC b).2.2.2 + 0), .int p1] M finV (rf_endReading p1 M) := by
  refine CT.of rfl (Nat.le_of_ble_eq_true rfl) (catc rfl (catc rfl cat0)) (fun z C => ?_)
  have C : Cx z l g (wC b) (rmd 2) cX11_endReading 2 RX11 none := C
  refine x_wk (L' := [some (.ref ((wC b).2.2.2 + 0)), some (.int p1)]) (And.intro rfl (And.intro rfl trivial)) ?_
  rw [rf_endReading]
  refine x_aloadn C dX11_endReading_0 rfl ?_
  refine x_iloadn C dX11_endReading_1 (x := p1) rfl ?_
  refine x_ifeq C dX11_endReading_2 (tgt := 9) (by decide) (fun _h => ?_) (fun _h => ?_)
  · refine x_aloadn C dX11_endReading_9 rfl ?_
    refine x_getR C fl_X11_12 cl_10 (1) nC0 kC0 fC0_0 dX11_endReading_10 ?_
    refine x_Vi (st := [.ref ((wC b).2.2.2 + 0)]) C (c_tp_start   M) lk_X11_329 nC1 kC1 ⟨_, _, rfl⟩ rfl rfl (Nat.le_of_ble_eq_true rfl) (rmok_d (by decide) (by decide)) ⟨Nat.zero_le _, Nat.zero_le _⟩ dX11_endReading_13 (fun v1 => ?_)
    refine x_putI C fl_X11_108 cl_10 fint_10_16 nC0 kC0 fC0_16 dX11_endReading_16 ?_
    refine x_ltM (fun M2 => ?_)
    refine x_aloadn C dX11_endReading_19 rfl ?_
    refine x_getR C fl_X11_12 cl_10 (1) nC0 kC0 fC0_0 dX11_endReading_20 ?_
    refine x_iconst C dX11_endReading_23 (v := (0 : Int32)) (by decide) ?_
    refine x_putI C fl_X11_112 cl_9 fint_9_1 nC1 kC1 fC1_1 dX11_endReading_24 ?_
    refine x_ltM (fun M3 => ?_)
    exact x_vret C dX11_endReading_27 rfl
  · refine x_iconst C dX11_endReading_5 (v := (-1 : Int32)) (by decide) ?_
    refine x_goto C dX11_endReading_6 (tgt := 16) (by decide) ?_
    refine x_putI C fl_X11_108 cl_10 fint_10_16 nC0 kC0 fC0_16 dX11_endReading_16 ?_
    refine x_ltM (fun M4 => ?_)
    refine x_aloadn C dX11_endReading_19 rfl ?_
    refine x_getR C fl_X11_12 cl_10 (1) nC0 kC0 fC0_0 dX11_endReading_20 ?_
    refine x_iconst C dX11_endReading_23 (v := (0 : Int32)) (by decide) ?_
    refine x_putI C fl_X11_112 cl_9 fint_9_1 nC1 kC1 fC1_1 dX11_endReading_24 ?_
    refine x_ltM (fun M5 => ?_)
    exact x_vret C dX11_endReading_27 rfl
