def md_thrown (M : Mem) : Option Int32 := some ((M 0 0))
set_option maxHeartbeats 4000000 in
set_option maxRecDepth 20000 in
theorem c_md_thrown {l : Launch} {g : GG} {b : Nat} (M : Mem) : CT l g (wM b) (rmd 1) yX12_thrown cX12_thrown 1 (some .int) [.ref ((wM b).2.2.2 + 0)] M (finI M) (md_thrown  M) := by
  refine CT.of rfl (Nat.le_of_ble_eq_true rfl) (catc rfl cat0) (fun z C => ?_)
  have C : Cx z l g (wM b) (rmd 1) cX12_thrown 1 RX12 (some .int) := C
  refine x_wk (L' := [some (.ref ((wM b).2.2.2 + 0))]) (And.intro rfl trivial) ?_
  rw [md_thrown]
  refine x_aloadn C dX12_thrown_0 rfl ?_
  refine x_getI C fl_X12_59 cl_11 nM0 kM0 fM0_0 dX12_thrown_1 ?_
  exact x_iret C dX12_thrown_4 rfl
def md_isIn (p1 : Int32) (p2 : Int32) (p3 : Int32) (M : Mem) : Option Int32 := (if p1 < p2 then some ((0 : Int32)) else (if p3 < p1 then some ((0 : Int32)) else some ((1 : Int32))))
set_option maxHeartbeats 4000000 in
set_option maxRecDepth 20000 in
theorem c_md_isIn {l : Launch} {g : GG} {b : Nat} (p1 : Int32) (p2 : Int32) (p3 : Int32) (M : Mem) : CT l g (wM b) (rmd 1) yX12_isIn cX12_isIn 3 (some .boolean) [.int p1, .int p2, .int p3] M (finI M) (md_isIn p1 p2 p3 M) := by
  refine CT.of rfl (Nat.le_of_ble_eq_true rfl) (catc rfl (catc rfl (catc rfl cat0))) (fun z C => ?_)
  have C : Cx z l g (wM b) (rmd 1) cX12_isIn 3 RX12 (some .boolean) := C
  refine x_wk (L' := [some (.int p1), some (.int p2), some (.int p3)]) (And.intro rfl (And.intro rfl (And.intro rfl trivial))) ?_
  rw [md_isIn]
  refine x_iloadn C dX12_isIn_0 (x := p1) rfl ?_
  refine x_iloadn C dX12_isIn_1 (x := p2) rfl ?_
  refine x_icmplt C dX12_isIn_2 (tgt := 14) (by decide) (fun _h => ?_) (fun _h => ?_)
  · refine x_iconst C dX12_isIn_14 (v := (0 : Int32)) (by decide) ?_
    exact x_zret C dX12_isIn_15 rfl rfl
  · refine x_iloadn C dX12_isIn_5 (x := p1) rfl ?_
    refine x_iloadn C dX12_isIn_6 (x := p3) rfl ?_
    refine x_icmpgt C dX12_isIn_7 (tgt := 14) (by decide) (fun _h => ?_) (fun _h => ?_)
    · refine x_iconst C dX12_isIn_14 (v := (0 : Int32)) (by decide) ?_
      exact x_zret C dX12_isIn_15 rfl rfl
    · refine x_iconst C dX12_isIn_10 (v := (1 : Int32)) (by decide) ?_
      refine x_goto C dX12_isIn_11 (tgt := 15) (by decide) ?_
      exact x_zret C dX12_isIn_15 rfl rfl
def md_isOf (p1 : Int32) (p2 : Int32) (M : Mem) : Option Int32 := (if ((p1 >>> (p2 &&& 31)) &&& (1 : Int32)) = (1 : Int32) then some ((1 : Int32)) else some ((0 : Int32)))
set_option maxHeartbeats 4000000 in
set_option maxRecDepth 20000 in
theorem c_md_isOf {l : Launch} {g : GG} {b : Nat} (p1 : Int32) (p2 : Int32) (M : Mem) : CT l g (wM b) (rmd 1) yX12_isOf cX12_isOf 2 (some .boolean) [.int p1, .int p2] M (finI M) (md_isOf p1 p2 M) := by
  refine CT.of rfl (Nat.le_of_ble_eq_true rfl) (catc rfl (catc rfl cat0)) (fun z C => ?_)
  have C : Cx z l g (wM b) (rmd 1) cX12_isOf 2 RX12 (some .boolean) := C
  refine x_wk (L' := [some (.int p1), some (.int p2)]) (And.intro rfl (And.intro rfl trivial)) ?_
  rw [md_isOf]
  refine x_iloadn C dX12_isOf_0 (x := p1) rfl ?_
  refine x_iloadn C dX12_isOf_1 (x := p2) rfl ?_
  refine x_ishr C dX12_isOf_2 ?_
  refine x_iconst C dX12_isOf_3 (v := (1 : Int32)) (by decide) ?_
  refine x_iand C dX12_isOf_4 ?_
  refine x_iconst C dX12_isOf_5 (v := (1 : Int32)) (by decide) ?_
  refine x_icmpne C dX12_isOf_6 (tgt := 13) (by decide) (fun _h => ?_) (fun _h => ?_)
  · refine x_iconst C dX12_isOf_13 (v := (0 : Int32)) (by decide) ?_
    exact x_zret C dX12_isOf_14 rfl rfl
  · refine x_iconst C dX12_isOf_9 (v := (1 : Int32)) (by decide) ?_
    refine x_goto C dX12_isOf_10 (tgt := 14) (by decide) ?_
    exact x_zret C dX12_isOf_14 rfl rfl
def md_of (p1 : Int32) (p2 : Int32) (M : Mem) : Option Int32 := chk (inb (((38 : Int32) + ((5 : Int32) * p1)) + p2) 648) (some ((M 1 (((38 : Int32) + ((5 : Int32) * p1)) + p2).toNatClampNeg)))
set_option maxHeartbeats 4000000 in
set_option maxRecDepth 20000 in
theorem c_md_of {l : Launch} {g : GG} {b : Nat} (p1 : Int32) (p2 : Int32) (M : Mem) : CT l g (wM b) (rmd 1) yX12_of cX12_of 3 (some .int) [.ref ((wM b).2.2.2 + 0), .int p1, .int p2] M (finI M) (md_of p1 p2 M) := by
  refine CT.of rfl (Nat.le_of_ble_eq_true rfl) (catc rfl (catc rfl (catc rfl cat0))) (fun z C => ?_)
  have C : Cx z l g (wM b) (rmd 1) cX12_of 3 RX12 (some .int) := C
  refine x_wk (L' := [some (.ref ((wM b).2.2.2 + 0)), some (.int p1), some (.int p2)]) (And.intro rfl (And.intro rfl (And.intro rfl trivial))) ?_
  rw [md_of]
  refine x_aloadn C dX12_of_0 rfl ?_
  refine x_getR C fl_X12_7 cl_11 (1) nM0 kM0 fM0_1 dX12_of_1 ?_
  refine x_bipush C dX12_of_4 (v := (38 : Int32)) (by decide) ?_
  refine x_iconst C dX12_of_6 (v := (5 : Int32)) (by decide) ?_
  refine x_iloadn C dX12_of_7 (x := p1) rfl ?_
  refine x_imul C dX12_of_8 ?_
  refine x_iadd C dX12_of_9 ?_
  refine x_iloadn C dX12_of_10 (x := p2) rfl ?_
  refine x_iadd C dX12_of_11 ?_
  refine x_iald C nM1 kM1 dX12_of_12 ?_
  exact x_iret C dX12_of_13 rfl
def md_isBeing (p1 : Int32) (M : Mem) : Option Int32 := (md_isIn (p1) ((0 : Int32)) (((M 1 1) - (1 : Int32))) M).bind fun v1 => chk (isB v1) (some (v1))
set_option maxHeartbeats 4000000 in
set_option maxRecDepth 20000 in
theorem c_md_isBeing {l : Launch} {g : GG} {b : Nat} (p1 : Int32) (M : Mem) : CT l g (wM b) (rmd 2) yX12_isBeing cX12_isBeing 2 (some .boolean) [.ref ((wM b).2.2.2 + 0), .int p1] M (finI M) (md_isBeing p1 M) := by
  refine CT.of rfl (Nat.le_of_ble_eq_true rfl) (catc rfl (catc rfl cat0)) (fun z C => ?_)
  have C : Cx z l g (wM b) (rmd 2) cX12_isBeing 2 RX12 (some .boolean) := C
  refine x_wk (L' := [some (.ref ((wM b).2.2.2 + 0)), some (.int p1)]) (And.intro rfl (And.intro rfl trivial)) ?_
  rw [md_isBeing]
  refine x_iloadn C dX12_isBeing_0 (x := p1) rfl ?_
  refine x_iconst C dX12_isBeing_1 (v := (0 : Int32)) (by decide) ?_
  refine x_aloadn C dX12_isBeing_2 rfl ?_
  refine x_getR C fl_X12_7 cl_11 (1) nM0 kM0 fM0_1 dX12_isBeing_3 ?_
  refine x_iconst C dX12_isBeing_6 (v := (1 : Int32)) (by decide) ?_
  refine x_ialdj C nM1 kM1 (j := 1) (by decide) (by decide) dX12_isBeing_7 ?_
  refine x_iconst C dX12_isBeing_8 (v := (1 : Int32)) (by decide) ?_
  refine x_isub C dX12_isBeing_9 ?_
  refine x_Si (st := []) C (c_md_isIn  (p1) ((0 : Int32)) (((M 1 1) - (1 : Int32))) M) lk_X12_62 rfl rfl (Nat.le_of_ble_eq_true rfl) (rmok_d (by decide) (by decide)) ⟨Nat.zero_le _, Nat.zero_le _⟩ dX12_isBeing_10 (fun v1 => ?_)
  exact x_zretc C dX12_isBeing_13 rfl
def md_everybody (M : Mem) : Option Int32 := some ((((1 : Int32) <<< ((M 1 1) &&& 31)) - (1 : Int32)))
set_option maxHeartbeats 4000000 in
set_option maxRecDepth 20000 in
theorem c_md_everybody {l : Launch} {g : GG} {b : Nat} (M : Mem) : CT l g (wM b) (rmd 1) yX12_everybody cX12_everybody 1 (some .int) [.ref ((wM b).2.2.2 + 0)] M (finI M) (md_everybody  M) := by
  refine CT.of rfl (Nat.le_of_ble_eq_true rfl) (catc rfl cat0) (fun z C => ?_)
  have C : Cx z l g (wM b) (rmd 1) cX12_everybody 1 RX12 (some .int) := C
  refine x_wk (L' := [some (.ref ((wM b).2.2.2 + 0))]) (And.intro rfl trivial) ?_
  rw [md_everybody]
  refine x_iconst C dX12_everybody_0 (v := (1 : Int32)) (by decide) ?_
  refine x_aloadn C dX12_everybody_1 rfl ?_
  refine x_getR C fl_X12_7 cl_11 (1) nM0 kM0 fM0_1 dX12_everybody_2 ?_
  refine x_iconst C dX12_everybody_5 (v := (1 : Int32)) (by decide) ?_
  refine x_ialdj C nM1 kM1 (j := 1) (by decide) (by decide) dX12_everybody_6 ?_
  refine x_ishl C dX12_everybody_7 ?_
  refine x_iconst C dX12_everybody_8 (v := (1 : Int32)) (by decide) ?_
  refine x_isub C dX12_everybody_9 ?_
  exact x_iret C dX12_everybody_10 rfl
def md_forceOf (p1 : Int32) (M : Mem) : Option Int32 := (md_of (p1) ((1 : Int32)) M).bind fun v1 => (md_of (p1) ((4 : Int32)) M).bind fun v2 => (if (v1 - v2) < 0 then some ((0 : Int32)) else some ((v1 - v2)))
set_option maxHeartbeats 4000000 in
set_option maxRecDepth 20000 in
theorem c_md_forceOf {l : Launch} {g : GG} {b : Nat} (p1 : Int32) (M : Mem) : CT l g (wM b) (rmd 2) yX12_forceOf cX12_forceOf 3 (some .int) [.ref ((wM b).2.2.2 + 0), .int p1] M (finI M) (md_forceOf p1 M) := by
  refine CT.of rfl (Nat.le_of_ble_eq_true rfl) (catc rfl (catc rfl cat0)) (fun z C => ?_)
  have C : Cx z l g (wM b) (rmd 2) cX12_forceOf 3 RX12 (some .int) := C
  refine x_wk (L' := [some (.ref ((wM b).2.2.2 + 0)), some (.int p1), none]) (And.intro rfl (And.intro rfl trivial)) ?_
  rw [md_forceOf]
  refine x_aloadn C dX12_forceOf_0 rfl ?_
  refine x_iloadn C dX12_forceOf_1 (x := p1) rfl ?_
  refine x_iconst C dX12_forceOf_2 (v := (1 : Int32)) (by decide) ?_
  refine x_Vi (st := []) C (c_md_of  (p1) ((1 : Int32)) M) lk_X12_66 nM0 kM0 ⟨_, _, rfl⟩ rfl rfl (Nat.le_of_ble_eq_true rfl) (rmok_d (by decide) (by decide)) ⟨Nat.zero_le _, Nat.zero_le _⟩ dX12_forceOf_3 (fun v1 => ?_)
  refine x_aloadn C dX12_forceOf_6 rfl ?_
  refine x_iloadn C dX12_forceOf_7 (x := p1) rfl ?_
  refine x_iconst C dX12_forceOf_8 (v := (4 : Int32)) (by decide) ?_
  refine x_Vi (st := [.int v1]) C (c_md_of  (p1) ((4 : Int32)) M) lk_X12_66 nM0 kM0 ⟨_, _, rfl⟩ rfl rfl (Nat.le_of_ble_eq_true rfl) (rmok_d (by decide) (by decide)) ⟨Nat.zero_le _, Nat.zero_le _⟩ dX12_forceOf_9 (fun v2 => ?_)
  refine x_isub C dX12_forceOf_12 ?_
  refine x_istoren C dX12_forceOf_13 (L' := [some (.ref ((wM b).2.2.2 + 0)), some (.int p1), some (.int (v1 - v2))]) (ltb rfl) rfl ?_
  refine x_iloadn C dX12_forceOf_14 (x := (v1 - v2)) rfl ?_
  refine x_ifge C dX12_forceOf_15 (tgt := 22) (by decide) (fun _h => ?_) (fun _h => ?_)
  · refine x_iloadn C dX12_forceOf_22 (x := (v1 - v2)) rfl ?_
    exact x_iret C dX12_forceOf_23 rfl
  · refine x_iconst C dX12_forceOf_18 (v := (0 : Int32)) (by decide) ?_
    refine x_goto C dX12_forceOf_19 (tgt := 23) (by decide) ?_
    exact x_iret C dX12_forceOf_23 rfl
def md_forceOfAll_L4 (p1 : Int32) (M : Mem) (K : Int32 → Option Int32) : Nat → Int32 → Int32 → Option Int32
  | 0, _, _ => none
  | fu + 1, x2, x3 => (if x3 < (M 1 1) then (md_isOf (p1) (x3) M).bind fun v1 => (if v1 = 0 then md_forceOfAll_L4 p1 M K fu ((x2 + (0 : Int32))) ((x3 + (1 : Int32))) else (md_forceOf (x3) M).bind fun v2 => md_forceOfAll_L4 p1 M K fu ((x2 + v2)) ((x3 + (1 : Int32)))) else K (x2))
def md_forceOfAll (p1 : Int32) (M : Mem) : Option Int32 := md_forceOfAll_L4 p1 M (fun v2_2 => some (v2_2)) FU ((0 : Int32)) ((0 : Int32))
set_option maxHeartbeats 4000000 in
set_option maxRecDepth 20000 in
theorem w_md_forceOfAll_L4 {z : ZT} {l : Launch} {g : GG} {b : Nat} (C : Cx z l g (wM b) (rmd 3) cX12_forceOfAll 4 RX12 (some .int)) (p1 : Int32) (M : Mem) {K : Int32 → Option Int32} (hK : ∀ (x2 : Int32) , XG z g (wM b) 4 (ZQ z g (wM b) (finI M)) 0 0 40 [none, none, some (.int x2), none] [] M (K x2)) : ∀ (fu : Nat) (x2 : Int32) (x3 : Int32), XG z g (wM b) 4 (ZQ z g (wM b) (finI M)) 0 0 4 [some (.ref ((wM b).2.2.2 + 0)), some (.int p1), some (.int x2), some (.int x3)] [] M (md_forceOfAll_L4 p1 M K fu x2 x3) := by
  intro fu
  induction fu with
  | zero => intro x2 x3; exact x_none
  | succ fu ih =>
    intro x2 x3
    rw [md_forceOfAll_L4]
    refine x_iloadn C dX12_forceOfAll_4 (x := x3) rfl ?_
    refine x_aloadn C dX12_forceOfAll_5 rfl ?_
    refine x_getR C fl_X12_7 cl_11 (1) nM0 kM0 fM0_1 dX12_forceOfAll_6 ?_
    refine x_iconst C dX12_forceOfAll_9 (v := (1 : Int32)) (by decide) ?_
    refine x_ialdj C nM1 kM1 (j := 1) (by decide) (by decide) dX12_forceOfAll_10 ?_
    refine x_icmpge C dX12_forceOfAll_11 (tgt := 40) (by decide) (fun _h => ?_) (fun _h => ?_)
    · exact x_wk (L' := [none, none, some (.int x2), none]) (And.intro rfl trivial) (hK (x2))
    · refine x_iloadn C dX12_forceOfAll_14 (x := x2) rfl ?_
      refine x_iloadn C dX12_forceOfAll_15 (x := p1) rfl ?_
      refine x_iloadn C dX12_forceOfAll_16 (x := x3) rfl ?_
      refine x_Si (st := [.int x2]) C (c_md_isOf  (p1) (x3) M) lk_X12_70 rfl rfl (Nat.le_of_ble_eq_true rfl) (rmok_d (by decide) (by decide)) ⟨Nat.zero_le _, Nat.zero_le _⟩ dX12_forceOfAll_17 (fun v1 => ?_)
      refine x_ifeq C dX12_forceOfAll_20 (tgt := 31) (by decide) (fun _h => ?_) (fun _h => ?_)
      · refine x_iconst C dX12_forceOfAll_31 (v := (0 : Int32)) (by decide) ?_
        refine x_iadd C dX12_forceOfAll_32 ?_
        refine x_istoren C dX12_forceOfAll_33 (L' := [some (.ref ((wM b).2.2.2 + 0)), some (.int p1), some (.int (x2 + (0 : Int32))), some (.int x3)]) (ltb rfl) rfl ?_
        refine x_iinc C dX12_forceOfAll_34 (v := (x3 + (1 : Int32))) rfl rfl (L' := [some (.ref ((wM b).2.2.2 + 0)), some (.int p1), some (.int (x2 + (0 : Int32))), some (.int (x3 + (1 : Int32)))]) rfl ?_
        refine x_goto C dX12_forceOfAll_37 (tgt := 4) (by decide) ?_
        exact x_wk (L' := [some (.ref ((wM b).2.2.2 + 0)), some (.int p1), some (.int (x2 + (0 : Int32))), some (.int (x3 + (1 : Int32)))]) (And.intro rfl (And.intro rfl (And.intro rfl (And.intro rfl trivial)))) (ih ((x2 + (0 : Int32))) ((x3 + (1 : Int32))))
      · refine x_aloadn C dX12_forceOfAll_23 rfl ?_
        refine x_iloadn C dX12_forceOfAll_24 (x := x3) rfl ?_
        refine x_Vi (st := [.int x2]) C (c_md_forceOf  (x3) M) lk_X12_74 nM0 kM0 ⟨_, _, rfl⟩ rfl rfl (Nat.le_of_ble_eq_true rfl) (rmok_d (by decide) (by decide)) ⟨Nat.zero_le _, Nat.zero_le _⟩ dX12_forceOfAll_25 (fun v2 => ?_)
        refine x_goto C dX12_forceOfAll_28 (tgt := 32) (by decide) ?_
        refine x_iadd C dX12_forceOfAll_32 ?_
        refine x_istoren C dX12_forceOfAll_33 (L' := [some (.ref ((wM b).2.2.2 + 0)), some (.int p1), some (.int (x2 + v2)), some (.int x3)]) (ltb rfl) rfl ?_
        refine x_iinc C dX12_forceOfAll_34 (v := (x3 + (1 : Int32))) rfl rfl (L' := [some (.ref ((wM b).2.2.2 + 0)), some (.int p1), some (.int (x2 + v2)), some (.int (x3 + (1 : Int32)))]) rfl ?_
        refine x_goto C dX12_forceOfAll_37 (tgt := 4) (by decide) ?_
        exact x_wk (L' := [some (.ref ((wM b).2.2.2 + 0)), some (.int p1), some (.int (x2 + v2)), some (.int (x3 + (1 : Int32)))]) (And.intro rfl (And.intro rfl (And.intro rfl (And.intro rfl trivial)))) (ih ((x2 + v2)) ((x3 + (1 : Int32))))
set_option maxHeartbeats 4000000 in
set_option maxRecDepth 20000 in
theorem c_md_forceOfAll {l : Launch} {g : GG} {b : Nat} (p1 : Int32) (M : Mem) : CT l g (wM b) (rmd 3) yX12_forceOfAll cX12_forceOfAll 4 (some .int) [.ref ((wM b).2.2.2 + 0), .int p1] M (finI M) (md_forceOfAll p1 M) := by
  refine CT.of rfl (Nat.le_of_ble_eq_true rfl) (catc rfl (catc rfl cat0)) (fun z C => ?_)
  have C : Cx z l g (wM b) (rmd 3) cX12_forceOfAll 4 RX12 (some .int) := C
  refine x_wk (L' := [some (.ref ((wM b).2.2.2 + 0)), some (.int p1), none, none]) (And.intro rfl (And.intro rfl trivial)) ?_
  rw [md_forceOfAll]
  refine x_iconst C dX12_forceOfAll_0 (v := (0 : Int32)) (by decide) ?_
  refine x_istoren C dX12_forceOfAll_1 (L' := [some (.ref ((wM b).2.2.2 + 0)), some (.int p1), some (.int (0 : Int32)), none]) (ltb rfl) rfl ?_
  refine x_iconst C dX12_forceOfAll_2 (v := (0 : Int32)) (by decide) ?_
  refine x_istoren C dX12_forceOfAll_3 (L' := [some (.ref ((wM b).2.2.2 + 0)), some (.int p1), some (.int (0 : Int32)), some (.int (0 : Int32))]) (ltb rfl) rfl ?_
  refine x_wk (L' := [some (.ref ((wM b).2.2.2 + 0)), some (.int p1), some (.int (0 : Int32)), some (.int (0 : Int32))]) (And.intro rfl (And.intro rfl (And.intro rfl (And.intro rfl trivial)))) (w_md_forceOfAll_L4 C p1  M (fun v2_2 => ?_) FU ((0 : Int32)) ((0 : Int32)) )
  refine x_iloadn C dX12_forceOfAll_40 (x := v2_2) rfl ?_
  exact x_iret C dX12_forceOfAll_41 rfl
def md_weightOf_L10 (p1 : Int32) (M : Mem) (K : Int32 → Option Int32) : Nat → Int32 → Int32 → Option Int32
  | 0, _, _ => none
  | fu + 1, x2, x3 => (if x3 < (M 1 1) then (md_isOf (p1) (x3) M).bind fun v1 => (if v1 = 0 then md_weightOf_L10 p1 M K fu ((x2 + (0 : Int32))) ((x3 + (1 : Int32))) else (md_of (x3) ((2 : Int32)) M).bind fun v2 => md_weightOf_L10 p1 M K fu ((x2 + v2)) ((x3 + (1 : Int32)))) else K (x2))
def md_weightOf (p1 : Int32) (M : Mem) : Option Int32 := md_weightOf_L10 p1 M (fun v2_2 => some (v2_2)) FU ((M 1 6)) ((0 : Int32))
set_option maxHeartbeats 4000000 in
set_option maxRecDepth 20000 in
theorem w_md_weightOf_L10 {z : ZT} {l : Launch} {g : GG} {b : Nat} (C : Cx z l g (wM b) (rmd 2) cX12_weightOf 4 RX12 (some .int)) (p1 : Int32) (M : Mem) {K : Int32 → Option Int32} (hK : ∀ (x2 : Int32) , XG z g (wM b) 4 (ZQ z g (wM b) (finI M)) 0 0 47 [none, none, some (.int x2), none] [] M (K x2)) : ∀ (fu : Nat) (x2 : Int32) (x3 : Int32), XG z g (wM b) 4 (ZQ z g (wM b) (finI M)) 0 0 10 [some (.ref ((wM b).2.2.2 + 0)), some (.int p1), some (.int x2), some (.int x3)] [] M (md_weightOf_L10 p1 M K fu x2 x3) := by
  intro fu
  induction fu with
  | zero => intro x2 x3; exact x_none
  | succ fu ih =>
    intro x2 x3
    rw [md_weightOf_L10]
    refine x_iloadn C dX12_weightOf_10 (x := x3) rfl ?_
    refine x_aloadn C dX12_weightOf_11 rfl ?_
    refine x_getR C fl_X12_7 cl_11 (1) nM0 kM0 fM0_1 dX12_weightOf_12 ?_
    refine x_iconst C dX12_weightOf_15 (v := (1 : Int32)) (by decide) ?_
    refine x_ialdj C nM1 kM1 (j := 1) (by decide) (by decide) dX12_weightOf_16 ?_
    refine x_icmpge C dX12_weightOf_17 (tgt := 47) (by decide) (fun _h => ?_) (fun _h => ?_)
    · exact x_wk (L' := [none, none, some (.int x2), none]) (And.intro rfl trivial) (hK (x2))
    · refine x_iloadn C dX12_weightOf_20 (x := x2) rfl ?_
      refine x_iloadn C dX12_weightOf_21 (x := p1) rfl ?_
      refine x_iloadn C dX12_weightOf_22 (x := x3) rfl ?_
      refine x_Si (st := [.int x2]) C (c_md_isOf  (p1) (x3) M) lk_X12_70 rfl rfl (Nat.le_of_ble_eq_true rfl) (rmok_d (by decide) (by decide)) ⟨Nat.zero_le _, Nat.zero_le _⟩ dX12_weightOf_23 (fun v1 => ?_)
      refine x_ifeq C dX12_weightOf_26 (tgt := 38) (by decide) (fun _h => ?_) (fun _h => ?_)
      · refine x_iconst C dX12_weightOf_38 (v := (0 : Int32)) (by decide) ?_
        refine x_iadd C dX12_weightOf_39 ?_
        refine x_istoren C dX12_weightOf_40 (L' := [some (.ref ((wM b).2.2.2 + 0)), some (.int p1), some (.int (x2 + (0 : Int32))), some (.int x3)]) (ltb rfl) rfl ?_
        refine x_iinc C dX12_weightOf_41 (v := (x3 + (1 : Int32))) rfl rfl (L' := [some (.ref ((wM b).2.2.2 + 0)), some (.int p1), some (.int (x2 + (0 : Int32))), some (.int (x3 + (1 : Int32)))]) rfl ?_
        refine x_goto C dX12_weightOf_44 (tgt := 10) (by decide) ?_
        exact x_wk (L' := [some (.ref ((wM b).2.2.2 + 0)), some (.int p1), some (.int (x2 + (0 : Int32))), some (.int (x3 + (1 : Int32)))]) (And.intro rfl (And.intro rfl (And.intro rfl (And.intro rfl trivial)))) (ih ((x2 + (0 : Int32))) ((x3 + (1 : Int32))))
      · refine x_aloadn C dX12_weightOf_29 rfl ?_
        refine x_iloadn C dX12_weightOf_30 (x := x3) rfl ?_
        refine x_iconst C dX12_weightOf_31 (v := (2 : Int32)) (by decide) ?_
        refine x_Vi (st := [.int x2]) C (c_md_of  (x3) ((2 : Int32)) M) lk_X12_66 nM0 kM0 ⟨_, _, rfl⟩ rfl rfl (Nat.le_of_ble_eq_true rfl) (rmok_d (by decide) (by decide)) ⟨Nat.zero_le _, Nat.zero_le _⟩ dX12_weightOf_32 (fun v2 => ?_)
        refine x_goto C dX12_weightOf_35 (tgt := 39) (by decide) ?_
        refine x_iadd C dX12_weightOf_39 ?_
        refine x_istoren C dX12_weightOf_40 (L' := [some (.ref ((wM b).2.2.2 + 0)), some (.int p1), some (.int (x2 + v2)), some (.int x3)]) (ltb rfl) rfl ?_
        refine x_iinc C dX12_weightOf_41 (v := (x3 + (1 : Int32))) rfl rfl (L' := [some (.ref ((wM b).2.2.2 + 0)), some (.int p1), some (.int (x2 + v2)), some (.int (x3 + (1 : Int32)))]) rfl ?_
        refine x_goto C dX12_weightOf_44 (tgt := 10) (by decide) ?_
        exact x_wk (L' := [some (.ref ((wM b).2.2.2 + 0)), some (.int p1), some (.int (x2 + v2)), some (.int (x3 + (1 : Int32)))]) (And.intro rfl (And.intro rfl (And.intro rfl (And.intro rfl trivial)))) (ih ((x2 + v2)) ((x3 + (1 : Int32))))
set_option maxHeartbeats 4000000 in
set_option maxRecDepth 20000 in
theorem c_md_weightOf {l : Launch} {g : GG} {b : Nat} (p1 : Int32) (M : Mem) : CT l g (wM b) (rmd 2) yX12_weightOf cX12_weightOf 4 (some .int) [.ref ((wM b).2.2.2 + 0), .int p1] M (finI M) (md_weightOf p1 M) := by
  refine CT.of rfl (Nat.le_of_ble_eq_true rfl) (catc rfl (catc rfl cat0)) (fun z C => ?_)
  have C : Cx z l g (wM b) (rmd 2) cX12_weightOf 4 RX12 (some .int) := C
  refine x_wk (L' := [some (.ref ((wM b).2.2.2 + 0)), some (.int p1), none, none]) (And.intro rfl (And.intro rfl trivial)) ?_
  rw [md_weightOf]
  refine x_aloadn C dX12_weightOf_0 rfl ?_
  refine x_getR C fl_X12_7 cl_11 (1) nM0 kM0 fM0_1 dX12_weightOf_1 ?_
  refine x_bipush C dX12_weightOf_4 (v := (6 : Int32)) (by decide) ?_
  refine x_ialdj C nM1 kM1 (j := 6) (by decide) (by decide) dX12_weightOf_6 ?_
  refine x_istoren C dX12_weightOf_7 (L' := [some (.ref ((wM b).2.2.2 + 0)), some (.int p1), some (.int (M 1 6)), none]) (ltb rfl) rfl ?_
  refine x_iconst C dX12_weightOf_8 (v := (0 : Int32)) (by decide) ?_
  refine x_istoren C dX12_weightOf_9 (L' := [some (.ref ((wM b).2.2.2 + 0)), some (.int p1), some (.int (M 1 6)), some (.int (0 : Int32))]) (ltb rfl) rfl ?_
  refine x_wk (L' := [some (.ref ((wM b).2.2.2 + 0)), some (.int p1), some (.int (M 1 6)), some (.int (0 : Int32))]) (And.intro rfl (And.intro rfl (And.intro rfl (And.intro rfl trivial)))) (w_md_weightOf_L10 C p1  M (fun v2_2 => ?_) FU ((M 1 6)) ((0 : Int32)) )
  refine x_iloadn C dX12_weightOf_47 (x := v2_2) rfl ?_
  exact x_iret C dX12_weightOf_48 rfl
def md_stream (M : Mem) : Option Int32 := chk (inb ((14 : Int32) + (irem ((M 1 2) / (60 : Int32)) (24 : Int32))) 648) (some ((M 1 ((14 : Int32) + (irem ((M 1 2) / (60 : Int32)) (24 : Int32))).toNatClampNeg)))
set_option maxHeartbeats 4000000 in
set_option maxRecDepth 20000 in
theorem c_md_stream {l : Launch} {g : GG} {b : Nat} (M : Mem) : CT l g (wM b) (rmd 1) yX12_stream cX12_stream 1 (some .int) [.ref ((wM b).2.2.2 + 0)] M (finI M) (md_stream  M) := by
  refine CT.of rfl (Nat.le_of_ble_eq_true rfl) (catc rfl cat0) (fun z C => ?_)
  have C : Cx z l g (wM b) (rmd 1) cX12_stream 1 RX12 (some .int) := C
  refine x_wk (L' := [some (.ref ((wM b).2.2.2 + 0))]) (And.intro rfl trivial) ?_
  rw [md_stream]
  refine x_aloadn C dX12_stream_0 rfl ?_
  refine x_getR C fl_X12_7 cl_11 (1) nM0 kM0 fM0_1 dX12_stream_1 ?_
  refine x_bipush C dX12_stream_4 (v := (14 : Int32)) (by decide) ?_
  refine x_aloadn C dX12_stream_6 rfl ?_
  refine x_getR C fl_X12_7 cl_11 (1) nM0 kM0 fM0_1 dX12_stream_7 ?_
  refine x_iconst C dX12_stream_10 (v := (2 : Int32)) (by decide) ?_
  refine x_ialdj C nM1 kM1 (j := 2) (by decide) (by decide) dX12_stream_11 ?_
  refine x_bipush C dX12_stream_12 (v := (60 : Int32)) (by decide) ?_
  refine x_idiv C dX12_stream_14 (by decide) ?_
  refine x_bipush C dX12_stream_15 (v := (24 : Int32)) (by decide) ?_
  refine x_irem C dX12_stream_17 (by decide) ?_
  refine x_iadd C dX12_stream_18 ?_
  refine x_iald C nM1 kM1 dX12_stream_19 ?_
  exact x_iret C dX12_stream_20 rfl
def md_needOf (p1 : Int32) (M : Mem) : Option Int32 := (md_stream M).bind fun v1 => some ((v1 + ((p1 + (19 : Int32)) / (20 : Int32))))
set_option maxHeartbeats 4000000 in
set_option maxRecDepth 20000 in
theorem c_md_needOf {l : Launch} {g : GG} {b : Nat} (p1 : Int32) (M : Mem) : CT l g (wM b) (rmd 2) yX12_needOf cX12_needOf 2 (some .int) [.ref ((wM b).2.2.2 + 0), .int p1] M (finI M) (md_needOf p1 M) := by
  refine CT.of rfl (Nat.le_of_ble_eq_true rfl) (catc rfl (catc rfl cat0)) (fun z C => ?_)
  have C : Cx z l g (wM b) (rmd 2) cX12_needOf 2 RX12 (some .int) := C
  refine x_wk (L' := [some (.ref ((wM b).2.2.2 + 0)), some (.int p1)]) (And.intro rfl (And.intro rfl trivial)) ?_
  rw [md_needOf]
  refine x_aloadn C dX12_needOf_0 rfl ?_
  refine x_Vi (st := []) C (c_md_stream   M) lk_X12_78 nM0 kM0 ⟨_, _, rfl⟩ rfl rfl (Nat.le_of_ble_eq_true rfl) (rmok_d (by decide) (by decide)) ⟨Nat.zero_le _, Nat.zero_le _⟩ dX12_needOf_1 (fun v1 => ?_)
  refine x_iloadn C dX12_needOf_4 (x := p1) rfl ?_
  refine x_bipush C dX12_needOf_5 (v := (19 : Int32)) (by decide) ?_
  refine x_iadd C dX12_needOf_7 ?_
  refine x_bipush C dX12_needOf_8 (v := (20 : Int32)) (by decide) ?_
  refine x_idiv C dX12_needOf_10 (by decide) ?_
  refine x_iadd C dX12_needOf_11 ?_
  exact x_iret C dX12_needOf_12 rfl
def md_minutesBy (p1 : Int32) (p2 : Int32) (M : Mem) : Option Int32 := chk (!(p2 == 0)) (lt1 ((((((M 1 7) * p1) + p2) - (1 : Int32)) / p2)) fun v1 => (if v1 < (1 : Int32) then some ((1 : Int32)) else some (v1)))
set_option maxHeartbeats 4000000 in
set_option maxRecDepth 20000 in
theorem c_md_minutesBy {l : Launch} {g : GG} {b : Nat} (p1 : Int32) (p2 : Int32) (M : Mem) : CT l g (wM b) (rmd 1) yX12_minutesBy cX12_minutesBy 4 (some .int) [.ref ((wM b).2.2.2 + 0), .int p1, .int p2] M (finI M) (md_minutesBy p1 p2 M) := by
  refine CT.of rfl (Nat.le_of_ble_eq_true rfl) (catc rfl (catc rfl (catc rfl cat0))) (fun z C => ?_)
  have C : Cx z l g (wM b) (rmd 1) cX12_minutesBy 4 RX12 (some .int) := C
  refine x_wk (L' := [some (.ref ((wM b).2.2.2 + 0)), some (.int p1), some (.int p2), none]) (And.intro rfl (And.intro rfl (And.intro rfl trivial))) ?_
  rw [md_minutesBy]
  refine x_aloadn C dX12_minutesBy_0 rfl ?_
  refine x_getR C fl_X12_7 cl_11 (1) nM0 kM0 fM0_1 dX12_minutesBy_1 ?_
  refine x_bipush C dX12_minutesBy_4 (v := (7 : Int32)) (by decide) ?_
  refine x_ialdj C nM1 kM1 (j := 7) (by decide) (by decide) dX12_minutesBy_6 ?_
  refine x_iloadn C dX12_minutesBy_7 (x := p1) rfl ?_
  refine x_imul C dX12_minutesBy_8 ?_
  refine x_iloadn C dX12_minutesBy_9 (x := p2) rfl ?_
  refine x_iadd C dX12_minutesBy_10 ?_
  refine x_iconst C dX12_minutesBy_11 (v := (1 : Int32)) (by decide) ?_
  refine x_isub C dX12_minutesBy_12 ?_
  refine x_iloadn C dX12_minutesBy_13 (x := p2) rfl ?_
  refine x_idivc C dX12_minutesBy_14 ?_
  refine x_lti (fun v1 => ?_)
  refine x_istoren C dX12_minutesBy_15 (L' := [some (.ref ((wM b).2.2.2 + 0)), some (.int p1), some (.int p2), some (.int v1)]) (ltb rfl) rfl ?_
  refine x_iloadn C dX12_minutesBy_16 (x := v1) rfl ?_
  refine x_iconst C dX12_minutesBy_17 (v := (1 : Int32)) (by decide) ?_
  refine x_icmpge C dX12_minutesBy_18 (tgt := 25) (by decide) (fun _h => ?_) (fun _h => ?_)
  · refine x_iloadn C dX12_minutesBy_25 (x := v1) rfl ?_
    exact x_iret C dX12_minutesBy_26 rfl
  · refine x_iconst C dX12_minutesBy_21 (v := (1 : Int32)) (by decide) ?_
    refine x_goto C dX12_minutesBy_22 (tgt := 26) (by decide) ?_
    exact x_iret C dX12_minutesBy_26 rfl
def md_feed_J76 (p1 : Int32) (p2 : Int32) (p3 : Int32) (p4 : Int32) (p5 : Int32) (rec : Int32 → Mem → Option (Int32 × Mem)) (K : Mem → Option (Int32 × Mem)) (x6 : Int32) (s0 : Int32) (M : Mem) : Option (Int32 × Mem) := chk (inb (M 0 6) 400) (lt1 (wr M 4 (M 0 6).toNatClampNeg ((iushr s0 ((24 : Int32) - ((8 : Int32) * (irem x6 (4 : Int32))))) &&& (255 : Int32))) fun M2 => lt1 (wr M2 0 6 ((M2 0 6) + (1 : Int32))) fun M3 => rec ((x6 + (1 : Int32))) (M3))
def md_feed_L23 (p1 : Int32) (p2 : Int32) (p3 : Int32) (p4 : Int32) (p5 : Int32) (K : Mem → Option (Int32 × Mem)) : Nat → Int32 → Mem → Option (Int32 × Mem)
  | 0, _, _ => none
  | fu + 1, x6, M => (if x6 < (20 : Int32) then (if x6 < (4 : Int32) then md_feed_J76 p1 p2 p3 p4 p5 (fun a6 aM => md_feed_L23 p1 p2 p3 p4 p5 K fu a6 aM) K (x6) (p1) M else (if x6 < (8 : Int32) then md_feed_J76 p1 p2 p3 p4 p5 (fun a6 aM => md_feed_L23 p1 p2 p3 p4 p5 K fu a6 aM) K (x6) (p2) M else (if x6 < (12 : Int32) then md_feed_J76 p1 p2 p3 p4 p5 (fun a6 aM => md_feed_L23 p1 p2 p3 p4 p5 K fu a6 aM) K (x6) (p3) M else (if x6 < (16 : Int32) then md_feed_J76 p1 p2 p3 p4 p5 (fun a6 aM => md_feed_L23 p1 p2 p3 p4 p5 K fu a6 aM) K (x6) (p4) M else md_feed_J76 p1 p2 p3 p4 p5 (fun a6 aM => md_feed_L23 p1 p2 p3 p4 p5 K fu a6 aM) K (x6) (p5) M)))) else K (M))
def md_feed (p1 : Int32) (p2 : Int32) (p3 : Int32) (p4 : Int32) (p5 : Int32) (M : Mem) : Option (Int32 × Mem) := lt1 (wr M 0 0 (0 : Int32)) fun M1 => (if (400 : Int32) < ((M1 0 6) + (20 : Int32)) then some ((-1 : Int32), M1) else md_feed_L23 p1 p2 p3 p4 p5 (fun M5 => some ((M5 0 6), M5)) FU ((0 : Int32)) M1)
set_option maxHeartbeats 4000000 in
set_option maxRecDepth 20000 in
theorem w_md_feed_J76 {z : ZT} {l : Launch} {g : GG} {b : Nat} (C : Cx z l g (wM b) (rmd 1) cX12_feed 8 RX12 (some .int)) (p1 : Int32) (p2 : Int32) (p3 : Int32) (p4 : Int32) (p5 : Int32)  {rec : Int32 → Mem → Option (Int32 × Mem)} (hrec : ∀ (u6 : Int32) (M : Mem) , XG z g (wM b) 8 (ZQ z g (wM b) finM) 0 0 23 [some (.ref ((wM b).2.2.2 + 0)), some (.int p1), some (.int p2), some (.int p3), some (.int p4), some (.int p5), some (.int u6), none] [] M (rec u6 M)) {K : Mem → Option (Int32 × Mem)} (hK : ∀ (M : Mem) , XG z g (wM b) 8 (ZQ z g (wM b) finM) 0 0 120 [some (.ref ((wM b).2.2.2 + 0)), none, none, none, none, none, none, none] [] M (K  M)) (x6 : Int32) (s0 : Int32) (M : Mem) : XG z g (wM b) 8 (ZQ z g (wM b) finM) 0 0 76 [some (.ref ((wM b).2.2.2 + 0)), some (.int p1), some (.int p2), some (.int p3), some (.int p4), some (.int p5), some (.int x6), none] [.int s0] M (md_feed_J76 p1 p2 p3 p4 p5 rec K x6 s0 M) := by
  rw [md_feed_J76]
  refine x_istore C dX12_feed_76 (L' := [some (.ref ((wM b).2.2.2 + 0)), some (.int p1), some (.int p2), some (.int p3), some (.int p4), some (.int p5), some (.int x6), some (.int s0)]) (ltb rfl) rfl ?_
  refine x_aloadn C dX12_feed_78 rfl ?_
  refine x_getR C fl_X12_19 cl_11 (4) nM0 kM0 fM0_5 dX12_feed_79 ?_
  refine x_aloadn C dX12_feed_82 rfl ?_
  refine x_getI C fl_X12_82 cl_11 nM0 kM0 fM0_6 dX12_feed_83 ?_
  refine x_iload C dX12_feed_86 (x := s0) rfl ?_
  refine x_bipush C dX12_feed_88 (v := (24 : Int32)) (by decide) ?_
  refine x_bipush C dX12_feed_90 (v := (8 : Int32)) (by decide) ?_
  refine x_iload C dX12_feed_92 (x := x6) rfl ?_
  refine x_iconst C dX12_feed_94 (v := (4 : Int32)) (by decide) ?_
  refine x_irem C dX12_feed_95 (by decide) ?_
  refine x_imul C dX12_feed_96 ?_
  refine x_isub C dX12_feed_97 ?_
  refine x_iushr C dX12_feed_98 ?_
  refine x_sipush C dX12_feed_99 (v := (255 : Int32)) (by decide) ?_
  refine x_iand C dX12_feed_102 ?_
  refine x_iast C nM4 kM4 dX12_feed_103 ?_
  refine x_ltM (fun M2 => ?_)
  refine x_aloadn C dX12_feed_104 rfl ?_
  refine x_dup C dX12_feed_105 rfl ?_
  refine x_getI C fl_X12_82 cl_11 nM0 kM0 fM0_6 dX12_feed_106 ?_
  refine x_iconst C dX12_feed_109 (v := (1 : Int32)) (by decide) ?_
  refine x_iadd C dX12_feed_110 ?_
  refine x_putI C fl_X12_82 cl_11 fint_11_6 nM0 kM0 fM0_6 dX12_feed_111 ?_
  refine x_ltM (fun M3 => ?_)
  refine x_iinc C dX12_feed_114 (v := (x6 + (1 : Int32))) rfl rfl (L' := [some (.ref ((wM b).2.2.2 + 0)), some (.int p1), some (.int p2), some (.int p3), some (.int p4), some (.int p5), some (.int (x6 + (1 : Int32))), some (.int s0)]) rfl ?_
  refine x_goto C dX12_feed_117 (tgt := 23) (by decide) ?_
  exact x_wk (L' := [some (.ref ((wM b).2.2.2 + 0)), some (.int p1), some (.int p2), some (.int p3), some (.int p4), some (.int p5), some (.int (x6 + (1 : Int32))), none]) (And.intro rfl (And.intro rfl (And.intro rfl (And.intro rfl (And.intro rfl (And.intro rfl (And.intro rfl trivial))))))) (hrec ((x6 + (1 : Int32))) (M3))
set_option maxHeartbeats 4000000 in
set_option maxRecDepth 20000 in
theorem w_md_feed_L23 {z : ZT} {l : Launch} {g : GG} {b : Nat} (C : Cx z l g (wM b) (rmd 1) cX12_feed 8 RX12 (some .int)) (p1 : Int32) (p2 : Int32) (p3 : Int32) (p4 : Int32) (p5 : Int32) {K : Mem → Option (Int32 × Mem)} (hK : ∀ (M : Mem) , XG z g (wM b) 8 (ZQ z g (wM b) finM) 0 0 120 [some (.ref ((wM b).2.2.2 + 0)), none, none, none, none, none, none, none] [] M (K M)) : ∀ (fu : Nat) (x6 : Int32) (M : Mem), XG z g (wM b) 8 (ZQ z g (wM b) finM) 0 0 23 [some (.ref ((wM b).2.2.2 + 0)), some (.int p1), some (.int p2), some (.int p3), some (.int p4), some (.int p5), some (.int x6), none] [] M (md_feed_L23 p1 p2 p3 p4 p5 K fu x6 M) := by
  intro fu
  induction fu with
  | zero => intro x6 M; exact x_none
  | succ fu ih =>
    intro x6 M
    rw [md_feed_L23]
    refine x_iload C dX12_feed_23 (x := x6) rfl ?_
    refine x_bipush C dX12_feed_25 (v := (20 : Int32)) (by decide) ?_
    refine x_icmpge C dX12_feed_27 (tgt := 120) (by decide) (fun _h => ?_) (fun _h => ?_)
    · exact x_wk (L' := [some (.ref ((wM b).2.2.2 + 0)), none, none, none, none, none, none, none]) (And.intro rfl trivial) (hK (M))
    · refine x_iload C dX12_feed_30 (x := x6) rfl ?_
      refine x_iconst C dX12_feed_32 (v := (4 : Int32)) (by decide) ?_
      refine x_icmpge C dX12_feed_33 (tgt := 40) (by decide) (fun _h => ?_) (fun _h => ?_)
      · refine x_iload C dX12_feed_40 (x := x6) rfl ?_
        refine x_bipush C dX12_feed_42 (v := (8 : Int32)) (by decide) ?_
        refine x_icmpge C dX12_feed_44 (tgt := 51) (by decide) (fun _h => ?_) (fun _h => ?_)
        · refine x_iload C dX12_feed_51 (x := x6) rfl ?_
          refine x_bipush C dX12_feed_53 (v := (12 : Int32)) (by decide) ?_
          refine x_icmpge C dX12_feed_55 (tgt := 62) (by decide) (fun _h => ?_) (fun _h => ?_)
          · refine x_iload C dX12_feed_62 (x := x6) rfl ?_
            refine x_bipush C dX12_feed_64 (v := (16 : Int32)) (by decide) ?_
            refine x_icmpge C dX12_feed_66 (tgt := 74) (by decide) (fun _h => ?_) (fun _h => ?_)
            · refine x_iload C dX12_feed_74 (x := p5) rfl ?_
              exact x_wk (L' := [some (.ref ((wM b).2.2.2 + 0)), some (.int p1), some (.int p2), some (.int p3), some (.int p4), some (.int p5), some (.int x6), none]) (And.intro rfl (And.intro rfl (And.intro rfl (And.intro rfl (And.intro rfl (And.intro rfl (And.intro rfl trivial))))))) (w_md_feed_J76 C p1 p2 p3 p4 p5  ih hK (x6) (p5) M)
            · refine x_iload C dX12_feed_69 (x := p4) rfl ?_
              refine x_goto C dX12_feed_71 (tgt := 76) (by decide) ?_
              exact x_wk (L' := [some (.ref ((wM b).2.2.2 + 0)), some (.int p1), some (.int p2), some (.int p3), some (.int p4), some (.int p5), some (.int x6), none]) (And.intro rfl (And.intro rfl (And.intro rfl (And.intro rfl (And.intro rfl (And.intro rfl (And.intro rfl trivial))))))) (w_md_feed_J76 C p1 p2 p3 p4 p5  ih hK (x6) (p4) M)
          · refine x_iloadn C dX12_feed_58 (x := p3) rfl ?_
            refine x_goto C dX12_feed_59 (tgt := 76) (by decide) ?_
            exact x_wk (L' := [some (.ref ((wM b).2.2.2 + 0)), some (.int p1), some (.int p2), some (.int p3), some (.int p4), some (.int p5), some (.int x6), none]) (And.intro rfl (And.intro rfl (And.intro rfl (And.intro rfl (And.intro rfl (And.intro rfl (And.intro rfl trivial))))))) (w_md_feed_J76 C p1 p2 p3 p4 p5  ih hK (x6) (p3) M)
        · refine x_iloadn C dX12_feed_47 (x := p2) rfl ?_
          refine x_goto C dX12_feed_48 (tgt := 76) (by decide) ?_
          exact x_wk (L' := [some (.ref ((wM b).2.2.2 + 0)), some (.int p1), some (.int p2), some (.int p3), some (.int p4), some (.int p5), some (.int x6), none]) (And.intro rfl (And.intro rfl (And.intro rfl (And.intro rfl (And.intro rfl (And.intro rfl (And.intro rfl trivial))))))) (w_md_feed_J76 C p1 p2 p3 p4 p5  ih hK (x6) (p2) M)
      · refine x_iloadn C dX12_feed_36 (x := p1) rfl ?_
        refine x_goto C dX12_feed_37 (tgt := 76) (by decide) ?_
        exact x_wk (L' := [some (.ref ((wM b).2.2.2 + 0)), some (.int p1), some (.int p2), some (.int p3), some (.int p4), some (.int p5), some (.int x6), none]) (And.intro rfl (And.intro rfl (And.intro rfl (And.intro rfl (And.intro rfl (And.intro rfl (And.intro rfl trivial))))))) (w_md_feed_J76 C p1 p2 p3 p4 p5  ih hK (x6) (p1) M)
set_option maxHeartbeats 4000000 in
set_option maxRecDepth 20000 in
theorem c_md_feed {l : Launch} {g : GG} {b : Nat} (p1 : Int32) (p2 : Int32) (p3 : Int32) (p4 : Int32) (p5 : Int32) (M : Mem) : CT l g (wM b) (rmd 1) yX12_feed cX12_feed 8 (some .int) [.ref ((wM b).2.2.2 + 0), .int p1, .int p2, .int p3, .int p4, .int p5] M finM (md_feed p1 p2 p3 p4 p5 M) := by
  refine CT.of rfl (Nat.le_of_ble_eq_true rfl) (catc rfl (catc rfl (catc rfl (catc rfl (catc rfl (catc rfl cat0)))))) (fun z C => ?_)
  have C : Cx z l g (wM b) (rmd 1) cX12_feed 8 RX12 (some .int) := C
  refine x_wk (L' := [some (.ref ((wM b).2.2.2 + 0)), some (.int p1), some (.int p2), some (.int p3), some (.int p4), some (.int p5), none, none]) (And.intro rfl (And.intro rfl (And.intro rfl (And.intro rfl (And.intro rfl (And.intro rfl trivial)))))) ?_
  rw [md_feed]
  refine x_aloadn C dX12_feed_0 rfl ?_
  refine x_iconst C dX12_feed_1 (v := (0 : Int32)) (by decide) ?_
  refine x_putI C fl_X12_59 cl_11 fint_11_0 nM0 kM0 fM0_0 dX12_feed_2 ?_
  refine x_ltM (fun M1 => ?_)
  refine x_aloadn C dX12_feed_5 rfl ?_
  refine x_getI C fl_X12_82 cl_11 nM0 kM0 fM0_6 dX12_feed_6 ?_
  refine x_bipush C dX12_feed_9 (v := (20 : Int32)) (by decide) ?_
  refine x_iadd C dX12_feed_11 ?_
  refine x_sipush C dX12_feed_12 (v := (400 : Int32)) (by decide) ?_
  refine x_icmple C dX12_feed_15 (tgt := 20) (by decide) (fun _h => ?_) (fun _h => ?_)
  · refine x_iconst C dX12_feed_20 (v := (0 : Int32)) (by decide) ?_
    refine x_istore C dX12_feed_21 (L' := [some (.ref ((wM b).2.2.2 + 0)), some (.int p1), some (.int p2), some (.int p3), some (.int p4), some (.int p5), some (.int (0 : Int32)), none]) (ltb rfl) rfl ?_
    refine x_wk (L' := [some (.ref ((wM b).2.2.2 + 0)), some (.int p1), some (.int p2), some (.int p3), some (.int p4), some (.int p5), some (.int (0 : Int32)), none]) (And.intro rfl (And.intro rfl (And.intro rfl (And.intro rfl (And.intro rfl (And.intro rfl (And.intro rfl trivial))))))) (w_md_feed_L23 C p1 p2 p3 p4 p5   (fun M5 => ?_) FU ((0 : Int32)) M1)
    refine x_aloadn C dX12_feed_120 rfl ?_
    refine x_getI C fl_X12_82 cl_11 nM0 kM0 fM0_6 dX12_feed_121 ?_
    exact x_iret C dX12_feed_124 rfl
  · refine x_iconst C dX12_feed_18 (v := (-1 : Int32)) (by decide) ?_
    exact x_iret C dX12_feed_19 rfl
def md_end (p1 : Int32) (M : Mem) : Option (Int32 × Mem) := lt1 (wr M 0 0 (0 : Int32)) fun M1 => (md_isIn (p1) ((0 : Int32)) ((M1 0 6)) M1).bind fun v2 => (if v2 = 0 then some ((0 : Int32), M1) else lt1 (wr M1 0 6 p1) fun M3 => some ((1 : Int32), M3))
set_option maxHeartbeats 4000000 in
set_option maxRecDepth 20000 in
theorem c_md_end {l : Launch} {g : GG} {b : Nat} (p1 : Int32) (M : Mem) : CT l g (wM b) (rmd 2) yX12_end cX12_end 2 (some .boolean) [.ref ((wM b).2.2.2 + 0), .int p1] M finM (md_end p1 M) := by
  refine CT.of rfl (Nat.le_of_ble_eq_true rfl) (catc rfl (catc rfl cat0)) (fun z C => ?_)
  have C : Cx z l g (wM b) (rmd 2) cX12_end 2 RX12 (some .boolean) := C
  refine x_wk (L' := [some (.ref ((wM b).2.2.2 + 0)), some (.int p1)]) (And.intro rfl (And.intro rfl trivial)) ?_
  rw [md_end]
  refine x_aloadn C dX12_end_0 rfl ?_
  refine x_iconst C dX12_end_1 (v := (0 : Int32)) (by decide) ?_
  refine x_putI C fl_X12_59 cl_11 fint_11_0 nM0 kM0 fM0_0 dX12_end_2 ?_
  refine x_ltM (fun M1 => ?_)
  refine x_iloadn C dX12_end_5 (x := p1) rfl ?_
  refine x_iconst C dX12_end_6 (v := (0 : Int32)) (by decide) ?_
  refine x_aloadn C dX12_end_7 rfl ?_
  refine x_getI C fl_X12_82 cl_11 nM0 kM0 fM0_6 dX12_end_8 ?_
  refine x_Si (st := []) C (c_md_isIn  (p1) ((0 : Int32)) ((M1 0 6)) M1) lk_X12_62 rfl rfl (Nat.le_of_ble_eq_true rfl) (rmok_d (by decide) (by decide)) ⟨Nat.zero_le _, Nat.zero_le _⟩ dX12_end_11 (fun v2 => ?_)
  refine x_ifne C dX12_end_14 (tgt := 19) (by decide) (fun _h => ?_) (fun _h => ?_)
  · refine x_aloadn C dX12_end_19 rfl ?_
    refine x_iloadn C dX12_end_20 (x := p1) rfl ?_
    refine x_putI C fl_X12_82 cl_11 fint_11_6 nM0 kM0 fM0_6 dX12_end_21 ?_
    refine x_ltM (fun M3 => ?_)
    refine x_iconst C dX12_end_24 (v := (1 : Int32)) (by decide) ?_
    exact x_zret C dX12_end_25 rfl rfl
  · refine x_iconst C dX12_end_17 (v := (0 : Int32)) (by decide) ?_
    exact x_zret C dX12_end_18 rfl rfl
def md_letter (p1 : Int32) (M : Mem) : Option Int32 := (if (M 0 7) = (-1 : Int32) then chk (inb p1 400) (some ((M 4 p1.toNatClampNeg))) else chk (inb ((M 0 7) + p1) 648) (some ((M 1 ((M 0 7) + p1).toNatClampNeg))))
set_option maxHeartbeats 4000000 in
set_option maxRecDepth 20000 in
theorem c_md_letter {l : Launch} {g : GG} {b : Nat} (p1 : Int32) (M : Mem) : CT l g (wM b) (rmd 1) yX12_letter cX12_letter 2 (some .int) [.ref ((wM b).2.2.2 + 0), .int p1] M (finI M) (md_letter p1 M) := by
  refine CT.of rfl (Nat.le_of_ble_eq_true rfl) (catc rfl (catc rfl cat0)) (fun z C => ?_)
  have C : Cx z l g (wM b) (rmd 1) cX12_letter 2 RX12 (some .int) := C
  refine x_wk (L' := [some (.ref ((wM b).2.2.2 + 0)), some (.int p1)]) (And.intro rfl (And.intro rfl trivial)) ?_
  rw [md_letter]
  refine x_aloadn C dX12_letter_0 rfl ?_
  refine x_getI C fl_X12_85 cl_11 nM0 kM0 fM0_7 dX12_letter_1 ?_
  refine x_iconst C dX12_letter_4 (v := (-1 : Int32)) (by decide) ?_
  refine x_icmpne C dX12_letter_5 (tgt := 17) (by decide) (fun _h => ?_) (fun _h => ?_)
  · refine x_aloadn C dX12_letter_17 rfl ?_
    refine x_getR C fl_X12_7 cl_11 (1) nM0 kM0 fM0_1 dX12_letter_18 ?_
    refine x_aloadn C dX12_letter_21 rfl ?_
    refine x_getI C fl_X12_85 cl_11 nM0 kM0 fM0_7 dX12_letter_22 ?_
    refine x_iloadn C dX12_letter_25 (x := p1) rfl ?_
    refine x_iadd C dX12_letter_26 ?_
    refine x_iald C nM1 kM1 dX12_letter_27 ?_
    exact x_iret C dX12_letter_28 rfl
  · refine x_aloadn C dX12_letter_8 rfl ?_
    refine x_getR C fl_X12_19 cl_11 (4) nM0 kM0 fM0_5 dX12_letter_9 ?_
    refine x_iloadn C dX12_letter_12 (x := p1) rfl ?_
    refine x_iald C nM4 kM4 dX12_letter_13 ?_
    refine x_goto C dX12_letter_14 (tgt := 28) (by decide) ?_
    exact x_iret C dX12_letter_28 rfl
def md_skip_L0  (K : Mem → Option Mem) : Nat → Mem → Option Mem
  | 0, _ => none
  | fu + 1, M => (if (M 0 9) < (M 0 8) then (md_letter ((M 0 9)) M).bind fun v1 => (if v1 = (32 : Int32) then lt1 (wr M 0 9 ((M 0 9) + (1 : Int32))) fun M2 => md_skip_L0 K fu (M2) else K (M)) else K (M))
def md_skip (M : Mem) : Option Mem := md_skip_L0 (fun M4 => some M4) FU M
set_option maxHeartbeats 4000000 in
set_option maxRecDepth 20000 in
theorem w_md_skip_L0 {z : ZT} {l : Launch} {g : GG} {b : Nat} (C : Cx z l g (wM b) (rmd 2) cX12_skip 1 RX12 none)  {K : Mem → Option Mem} (hK : ∀ (M : Mem) , XG z g (wM b) 1 (ZQ z g (wM b) finV) 0 0 37 [none] [] M (K M)) : ∀ (fu : Nat) (M : Mem), XG z g (wM b) 1 (ZQ z g (wM b) finV) 0 0 0 [some (.ref ((wM b).2.2.2 + 0))] [] M (md_skip_L0 K fu  M) := by
  intro fu
  induction fu with
  | zero => intro  M; exact x_none
  | succ fu ih =>
    intro  M
    rw [md_skip_L0]
    refine x_aloadn C dX12_skip_0 rfl ?_
    refine x_getI C fl_X12_88 cl_11 nM0 kM0 fM0_9 dX12_skip_1 ?_
    refine x_aloadn C dX12_skip_4 rfl ?_
    refine x_getI C fl_X12_91 cl_11 nM0 kM0 fM0_8 dX12_skip_5 ?_
    refine x_icmpge C dX12_skip_8 (tgt := 37) (by decide) (fun _h => ?_) (fun _h => ?_)
    · exact x_wk (L' := [none]) (trivial) (hK (M))
    · refine x_aloadn C dX12_skip_11 rfl ?_
      refine x_aloadn C dX12_skip_12 rfl ?_
      refine x_getI C fl_X12_88 cl_11 nM0 kM0 fM0_9 dX12_skip_13 ?_
      refine x_Vi (st := []) C (c_md_letter  ((M 0 9)) M) lk_X12_94 nM0 kM0 ⟨_, _, rfl⟩ rfl rfl (Nat.le_of_ble_eq_true rfl) (rmok_d (by decide) (by decide)) ⟨Nat.zero_le _, Nat.zero_le _⟩ dX12_skip_16 (fun v1 => ?_)
      refine x_bipush C dX12_skip_19 (v := (32 : Int32)) (by decide) ?_
      refine x_icmpne C dX12_skip_21 (tgt := 37) (by decide) (fun _h => ?_) (fun _h => ?_)
      · exact x_wk (L' := [none]) (trivial) (hK (M))
      · refine x_aloadn C dX12_skip_24 rfl ?_
        refine x_dup C dX12_skip_25 rfl ?_
        refine x_getI C fl_X12_88 cl_11 nM0 kM0 fM0_9 dX12_skip_26 ?_
        refine x_iconst C dX12_skip_29 (v := (1 : Int32)) (by decide) ?_
        refine x_iadd C dX12_skip_30 ?_
        refine x_putI C fl_X12_88 cl_11 fint_11_9 nM0 kM0 fM0_9 dX12_skip_31 ?_
        refine x_ltM (fun M2 => ?_)
        refine x_goto C dX12_skip_34 (tgt := 0) (by decide) ?_
        exact x_wk (L' := [some (.ref ((wM b).2.2.2 + 0))]) (And.intro rfl trivial) (ih (M2))
set_option maxHeartbeats 4000000 in
set_option maxRecDepth 20000 in
theorem c_md_skip {l : Launch} {g : GG} {b : Nat} (M : Mem) : CT l g (wM b) (rmd 2) yX12_skip cX12_skip 1 none [.ref ((wM b).2.2.2 + 0)] M finV (md_skip  M) := by
  refine CT.of rfl (Nat.le_of_ble_eq_true rfl) (catc rfl cat0) (fun z C => ?_)
  have C : Cx z l g (wM b) (rmd 2) cX12_skip 1 RX12 none := C
  refine x_wk (L' := [some (.ref ((wM b).2.2.2 + 0))]) (And.intro rfl trivial) ?_
  rw [md_skip]
  refine x_wk (L' := [some (.ref ((wM b).2.2.2 + 0))]) (And.intro rfl trivial) (w_md_skip_L0 C    (fun M4 => ?_) FU  M)
  exact x_vret C dX12_skip_37 rfl
def md_isSign (p1 : Int32) (M : Mem) : Option (Int32 × Mem) := (md_skip M).bind fun M1 => (if (M1 0 9) < (M1 0 8) then (md_letter ((M1 0 9)) M1).bind fun v2 => (if v2 = p1 then some ((1 : Int32), M1) else some ((0 : Int32), M1)) else some ((0 : Int32), M1))
set_option maxHeartbeats 4000000 in
set_option maxRecDepth 20000 in
theorem c_md_isSign {l : Launch} {g : GG} {b : Nat} (p1 : Int32) (M : Mem) : CT l g (wM b) (rmd 3) yX12_isSign cX12_isSign 2 (some .boolean) [.ref ((wM b).2.2.2 + 0), .int p1] M finM (md_isSign p1 M) := by
  refine CT.of rfl (Nat.le_of_ble_eq_true rfl) (catc rfl (catc rfl cat0)) (fun z C => ?_)
  have C : Cx z l g (wM b) (rmd 3) cX12_isSign 2 RX12 (some .boolean) := C
  refine x_wk (L' := [some (.ref ((wM b).2.2.2 + 0)), some (.int p1)]) (And.intro rfl (And.intro rfl trivial)) ?_
  rw [md_isSign]
  refine x_aloadn C dX12_isSign_0 rfl ?_
  refine x_Vv (st := []) C (c_md_skip   M) lk_X12_97 nM0 kM0 ⟨_, _, rfl⟩ rfl rfl (Nat.le_of_ble_eq_true rfl) (rmok_d (by decide) (by decide)) ⟨Nat.zero_le _, Nat.zero_le _⟩ dX12_isSign_1 (fun M1 => ?_)
  refine x_aloadn C dX12_isSign_4 rfl ?_
  refine x_getI C fl_X12_88 cl_11 nM0 kM0 fM0_9 dX12_isSign_5 ?_
  refine x_aloadn C dX12_isSign_8 rfl ?_
  refine x_getI C fl_X12_91 cl_11 nM0 kM0 fM0_8 dX12_isSign_9 ?_
  refine x_icmpge C dX12_isSign_12 (tgt := 31) (by decide) (fun _h => ?_) (fun _h => ?_)
  · refine x_iconst C dX12_isSign_31 (v := (0 : Int32)) (by decide) ?_
    exact x_zret C dX12_isSign_32 rfl rfl
  · refine x_aloadn C dX12_isSign_15 rfl ?_
    refine x_aloadn C dX12_isSign_16 rfl ?_
    refine x_getI C fl_X12_88 cl_11 nM0 kM0 fM0_9 dX12_isSign_17 ?_
    refine x_Vi (st := []) C (c_md_letter  ((M1 0 9)) M1) lk_X12_94 nM0 kM0 ⟨_, _, rfl⟩ rfl rfl (Nat.le_of_ble_eq_true rfl) (rmok_d (by decide) (by decide)) ⟨Nat.zero_le _, Nat.zero_le _⟩ dX12_isSign_20 (fun v2 => ?_)
    refine x_iloadn C dX12_isSign_23 (x := p1) rfl ?_
    refine x_icmpne C dX12_isSign_24 (tgt := 31) (by decide) (fun _h => ?_) (fun _h => ?_)
    · refine x_iconst C dX12_isSign_31 (v := (0 : Int32)) (by decide) ?_
      exact x_zret C dX12_isSign_32 rfl rfl
    · refine x_iconst C dX12_isSign_27 (v := (1 : Int32)) (by decide) ?_
      refine x_goto C dX12_isSign_28 (tgt := 32) (by decide) ?_
      exact x_zret C dX12_isSign_32 rfl rfl
