def md_fault (M : Mem) : Option (Int32 × Mem) := lt1 (wr M 0 0 (0 : Int32)) fun M1 => some ((M1 0 10), M1)
set_option maxHeartbeats 4000000 in
set_option maxRecDepth 20000 in
theorem c_md_fault {l : Launch} {g : GG} {b : Nat} (M : Mem) : CT l g (wM b) (rmd 1) yX12_fault cX12_fault 1 (some .int) [.ref ((wM b).2.2.2 + 0)] M finM (md_fault  M) := by
  refine CT.of rfl (Nat.le_of_ble_eq_true rfl) (catc rfl cat0) (fun z C => ?_)
  have C : Cx z l g (wM b) (rmd 1) cX12_fault 1 RX12 (some .int) := C
  refine x_wk (L' := [some (.ref ((wM b).2.2.2 + 0))]) (And.intro rfl trivial) ?_
  rw [md_fault]
  refine x_aloadn C dX12_fault_0 rfl ?_
  refine x_iconst C dX12_fault_1 (v := (0 : Int32)) (by decide) ?_
  refine x_putI C fl_X12_59 cl_11 fint_11_0 nM0 kM0 fM0_0 dX12_fault_2 ?_
  refine x_ltM (fun M1 => ?_)
  refine x_aloadn C dX12_fault_5 rfl ?_
  refine x_getI C fl_X12_22 cl_11 nM0 kM0 fM0_10 dX12_fault_6 ?_
  exact x_iret C dX12_fault_9 rfl
def md_mayBe_L2 (p1 : Int32) (M : Mem) (K : Option Int32) : Nat → Int32 → Option Int32
  | 0, _ => none
  | fu + 1, x2 => (if x2 < (M 1 12) then chk (inb (((88 : Int32) + ((3 : Int32) * x2)) + (2 : Int32)) 648) (lt1 ((M 1 (((88 : Int32) + ((3 : Int32) * x2)) + (2 : Int32)).toNatClampNeg)) fun v1 => chk (inb ((88 : Int32) + ((3 : Int32) * x2)) 648) ((md_isOf (p1) ((M 1 ((88 : Int32) + ((3 : Int32) * x2)).toNatClampNeg)) M).bind fun v2 => (if v2 = 0 then md_mayBe_L2 p1 M K fu ((x2 + (1 : Int32))) else chk (inb (((88 : Int32) + ((3 : Int32) * x2)) + (1 : Int32)) 648) ((md_isOf (p1) ((M 1 (((88 : Int32) + ((3 : Int32) * x2)) + (1 : Int32)).toNatClampNeg)) M).bind fun v3 => (if v3 = 0 then md_mayBe_L2 p1 M K fu ((x2 + (1 : Int32))) else (if v1 = (-1 : Int32) then some ((0 : Int32)) else (md_isOf (p1) (v1) M).bind fun v4 => (if v4 = 0 then some ((0 : Int32)) else md_mayBe_L2 p1 M K fu ((x2 + (1 : Int32)))))))))) else K)
def md_mayBe (p1 : Int32) (M : Mem) : Option Int32 := md_mayBe_L2 p1 M (some ((1 : Int32))) FU ((0 : Int32))
set_option maxHeartbeats 4000000 in
set_option maxRecDepth 20000 in
theorem w_md_mayBe_L2 {z : ZT} {l : Launch} {g : GG} {b : Nat} (C : Cx z l g (wM b) (rmd 2) cX12_mayBe 4 RX12 (some .boolean)) (p1 : Int32) (M : Mem) {K : Option Int32} (hK : XG z g (wM b) 4 (ZQ z g (wM b) (finI M)) 0 0 86 [none, none, none, none] [] M (K )) : ∀ (fu : Nat) (x2 : Int32), XG z g (wM b) 4 (ZQ z g (wM b) (finI M)) 0 0 2 [some (.ref ((wM b).2.2.2 + 0)), some (.int p1), some (.int x2), none] [] M (md_mayBe_L2 p1 M K fu x2) := by
  intro fu
  induction fu with
  | zero => intro x2; exact x_none
  | succ fu ih =>
    intro x2
    rw [md_mayBe_L2]
    refine x_iloadn C dX12_mayBe_2 (x := x2) rfl ?_
    refine x_aloadn C dX12_mayBe_3 rfl ?_
    refine x_getR C fl_X12_7 cl_11 (1) nM0 kM0 fM0_1 dX12_mayBe_4 ?_
    refine x_bipush C dX12_mayBe_7 (v := (12 : Int32)) (by decide) ?_
    refine x_ialdj C nM1 kM1 (j := 12) (by decide) (by decide) dX12_mayBe_9 ?_
    refine x_icmpge C dX12_mayBe_10 (tgt := 86) (by decide) (fun _h => ?_) (fun _h => ?_)
    · exact x_wk (L' := [none, none, none, none]) (trivial) (hK )
    · refine x_aloadn C dX12_mayBe_13 rfl ?_
      refine x_getR C fl_X12_7 cl_11 (1) nM0 kM0 fM0_1 dX12_mayBe_14 ?_
      refine x_bipush C dX12_mayBe_17 (v := (88 : Int32)) (by decide) ?_
      refine x_iconst C dX12_mayBe_19 (v := (3 : Int32)) (by decide) ?_
      refine x_iloadn C dX12_mayBe_20 (x := x2) rfl ?_
      refine x_imul C dX12_mayBe_21 ?_
      refine x_iadd C dX12_mayBe_22 ?_
      refine x_iconst C dX12_mayBe_23 (v := (2 : Int32)) (by decide) ?_
      refine x_iadd C dX12_mayBe_24 ?_
      refine x_iald C nM1 kM1 dX12_mayBe_25 ?_
      refine x_lti (fun v1 => ?_)
      refine x_istoren C dX12_mayBe_26 (L' := [some (.ref ((wM b).2.2.2 + 0)), some (.int p1), some (.int x2), some (.int v1)]) (ltb rfl) rfl ?_
      refine x_iloadn C dX12_mayBe_27 (x := p1) rfl ?_
      refine x_aloadn C dX12_mayBe_28 rfl ?_
      refine x_getR C fl_X12_7 cl_11 (1) nM0 kM0 fM0_1 dX12_mayBe_29 ?_
      refine x_bipush C dX12_mayBe_32 (v := (88 : Int32)) (by decide) ?_
      refine x_iconst C dX12_mayBe_34 (v := (3 : Int32)) (by decide) ?_
      refine x_iloadn C dX12_mayBe_35 (x := x2) rfl ?_
      refine x_imul C dX12_mayBe_36 ?_
      refine x_iadd C dX12_mayBe_37 ?_
      refine x_iald C nM1 kM1 dX12_mayBe_38 ?_
      refine x_Si (st := []) C (c_md_isOf  (p1) ((M 1 ((88 : Int32) + ((3 : Int32) * x2)).toNatClampNeg)) M) lk_X12_70 rfl rfl (Nat.le_of_ble_eq_true rfl) (rmok_d (by decide) (by decide)) ⟨Nat.zero_le _, Nat.zero_le _⟩ dX12_mayBe_39 (fun v2 => ?_)
      refine x_ifeq C dX12_mayBe_42 (tgt := 80) (by decide) (fun _h => ?_) (fun _h => ?_)
      · refine x_iinc C dX12_mayBe_80 (v := (x2 + (1 : Int32))) rfl rfl (L' := [some (.ref ((wM b).2.2.2 + 0)), some (.int p1), some (.int (x2 + (1 : Int32))), some (.int v1)]) rfl ?_
        refine x_goto C dX12_mayBe_83 (tgt := 2) (by decide) ?_
        exact x_wk (L' := [some (.ref ((wM b).2.2.2 + 0)), some (.int p1), some (.int (x2 + (1 : Int32))), none]) (And.intro rfl (And.intro rfl (And.intro rfl trivial))) (ih ((x2 + (1 : Int32))))
      · refine x_iloadn C dX12_mayBe_45 (x := p1) rfl ?_
        refine x_aloadn C dX12_mayBe_46 rfl ?_
        refine x_getR C fl_X12_7 cl_11 (1) nM0 kM0 fM0_1 dX12_mayBe_47 ?_
        refine x_bipush C dX12_mayBe_50 (v := (88 : Int32)) (by decide) ?_
        refine x_iconst C dX12_mayBe_52 (v := (3 : Int32)) (by decide) ?_
        refine x_iloadn C dX12_mayBe_53 (x := x2) rfl ?_
        refine x_imul C dX12_mayBe_54 ?_
        refine x_iadd C dX12_mayBe_55 ?_
        refine x_iconst C dX12_mayBe_56 (v := (1 : Int32)) (by decide) ?_
        refine x_iadd C dX12_mayBe_57 ?_
        refine x_iald C nM1 kM1 dX12_mayBe_58 ?_
        refine x_Si (st := []) C (c_md_isOf  (p1) ((M 1 (((88 : Int32) + ((3 : Int32) * x2)) + (1 : Int32)).toNatClampNeg)) M) lk_X12_70 rfl rfl (Nat.le_of_ble_eq_true rfl) (rmok_d (by decide) (by decide)) ⟨Nat.zero_le _, Nat.zero_le _⟩ dX12_mayBe_59 (fun v3 => ?_)
        refine x_ifeq C dX12_mayBe_62 (tgt := 80) (by decide) (fun _h => ?_) (fun _h => ?_)
        · refine x_iinc C dX12_mayBe_80 (v := (x2 + (1 : Int32))) rfl rfl (L' := [some (.ref ((wM b).2.2.2 + 0)), some (.int p1), some (.int (x2 + (1 : Int32))), some (.int v1)]) rfl ?_
          refine x_goto C dX12_mayBe_83 (tgt := 2) (by decide) ?_
          exact x_wk (L' := [some (.ref ((wM b).2.2.2 + 0)), some (.int p1), some (.int (x2 + (1 : Int32))), none]) (And.intro rfl (And.intro rfl (And.intro rfl trivial))) (ih ((x2 + (1 : Int32))))
        · refine x_iloadn C dX12_mayBe_65 (x := v1) rfl ?_
          refine x_iconst C dX12_mayBe_66 (v := (-1 : Int32)) (by decide) ?_
          refine x_icmpeq C dX12_mayBe_67 (tgt := 78) (by decide) (fun _h => ?_) (fun _h => ?_)
          · refine x_iconst C dX12_mayBe_78 (v := (0 : Int32)) (by decide) ?_
            exact x_zret C dX12_mayBe_79 rfl rfl
          · refine x_iloadn C dX12_mayBe_70 (x := p1) rfl ?_
            refine x_iloadn C dX12_mayBe_71 (x := v1) rfl ?_
            refine x_Si (st := []) C (c_md_isOf  (p1) (v1) M) lk_X12_70 rfl rfl (Nat.le_of_ble_eq_true rfl) (rmok_d (by decide) (by decide)) ⟨Nat.zero_le _, Nat.zero_le _⟩ dX12_mayBe_72 (fun v4 => ?_)
            refine x_ifne C dX12_mayBe_75 (tgt := 80) (by decide) (fun _h => ?_) (fun _h => ?_)
            · refine x_iinc C dX12_mayBe_80 (v := (x2 + (1 : Int32))) rfl rfl (L' := [some (.ref ((wM b).2.2.2 + 0)), some (.int p1), some (.int (x2 + (1 : Int32))), some (.int v1)]) rfl ?_
              refine x_goto C dX12_mayBe_83 (tgt := 2) (by decide) ?_
              exact x_wk (L' := [some (.ref ((wM b).2.2.2 + 0)), some (.int p1), some (.int (x2 + (1 : Int32))), none]) (And.intro rfl (And.intro rfl (And.intro rfl trivial))) (ih ((x2 + (1 : Int32))))
            · refine x_iconst C dX12_mayBe_78 (v := (0 : Int32)) (by decide) ?_
              exact x_zret C dX12_mayBe_79 rfl rfl
set_option maxHeartbeats 4000000 in
set_option maxRecDepth 20000 in
theorem c_md_mayBe {l : Launch} {g : GG} {b : Nat} (p1 : Int32) (M : Mem) : CT l g (wM b) (rmd 2) yX12_mayBe cX12_mayBe 4 (some .boolean) [.ref ((wM b).2.2.2 + 0), .int p1] M (finI M) (md_mayBe p1 M) := by
  refine CT.of rfl (Nat.le_of_ble_eq_true rfl) (catc rfl (catc rfl cat0)) (fun z C => ?_)
  have C : Cx z l g (wM b) (rmd 2) cX12_mayBe 4 RX12 (some .boolean) := C
  refine x_wk (L' := [some (.ref ((wM b).2.2.2 + 0)), some (.int p1), none, none]) (And.intro rfl (And.intro rfl trivial)) ?_
  rw [md_mayBe]
  refine x_iconst C dX12_mayBe_0 (v := (0 : Int32)) (by decide) ?_
  refine x_istoren C dX12_mayBe_1 (L' := [some (.ref ((wM b).2.2.2 + 0)), some (.int p1), some (.int (0 : Int32)), none]) (ltb rfl) rfl ?_
  refine x_wk (L' := [some (.ref ((wM b).2.2.2 + 0)), some (.int p1), some (.int (0 : Int32)), none]) (And.intro rfl (And.intro rfl (And.intro rfl trivial))) (w_md_mayBe_L2 C p1  M ?_ FU ((0 : Int32)) )
  refine x_iconst C dX12_mayBe_86 (v := (1 : Int32)) (by decide) ?_
  exact x_zret C dX12_mayBe_87 rfl rfl
def md_hasWith_L2 (p1 : Int32) (M : Mem) (K : Option Int32) : Nat → Int32 → Option Int32
  | 0, _ => none
  | fu + 1, x2 => (if x2 < (M 1 13) then chk (inb ((124 : Int32) + ((2 : Int32) * x2)) 648) ((if (M 1 ((124 : Int32) + ((2 : Int32) * x2)).toNatClampNeg) = p1 then some ((1 : Int32)) else md_hasWith_L2 p1 M K fu ((x2 + (1 : Int32))))) else K)
def md_hasWith (p1 : Int32) (M : Mem) : Option Int32 := md_hasWith_L2 p1 M (some ((0 : Int32))) FU ((0 : Int32))
set_option maxHeartbeats 4000000 in
set_option maxRecDepth 20000 in
theorem w_md_hasWith_L2 {z : ZT} {l : Launch} {g : GG} {b : Nat} (C : Cx z l g (wM b) (rmd 1) cX12_hasWith 3 RX12 (some .boolean)) (p1 : Int32) (M : Mem) {K : Option Int32} (hK : XG z g (wM b) 3 (ZQ z g (wM b) (finI M)) 0 0 36 [none, none, none] [] M (K )) : ∀ (fu : Nat) (x2 : Int32), XG z g (wM b) 3 (ZQ z g (wM b) (finI M)) 0 0 2 [some (.ref ((wM b).2.2.2 + 0)), some (.int p1), some (.int x2)] [] M (md_hasWith_L2 p1 M K fu x2) := by
  intro fu
  induction fu with
  | zero => intro x2; exact x_none
  | succ fu ih =>
    intro x2
    rw [md_hasWith_L2]
    refine x_iloadn C dX12_hasWith_2 (x := x2) rfl ?_
    refine x_aloadn C dX12_hasWith_3 rfl ?_
    refine x_getR C fl_X12_7 cl_11 (1) nM0 kM0 fM0_1 dX12_hasWith_4 ?_
    refine x_bipush C dX12_hasWith_7 (v := (13 : Int32)) (by decide) ?_
    refine x_ialdj C nM1 kM1 (j := 13) (by decide) (by decide) dX12_hasWith_9 ?_
    refine x_icmpge C dX12_hasWith_10 (tgt := 36) (by decide) (fun _h => ?_) (fun _h => ?_)
    · exact x_wk (L' := [none, none, none]) (trivial) (hK )
    · refine x_aloadn C dX12_hasWith_13 rfl ?_
      refine x_getR C fl_X12_7 cl_11 (1) nM0 kM0 fM0_1 dX12_hasWith_14 ?_
      refine x_bipush C dX12_hasWith_17 (v := (124 : Int32)) (by decide) ?_
      refine x_iconst C dX12_hasWith_19 (v := (2 : Int32)) (by decide) ?_
      refine x_iloadn C dX12_hasWith_20 (x := x2) rfl ?_
      refine x_imul C dX12_hasWith_21 ?_
      refine x_iadd C dX12_hasWith_22 ?_
      refine x_iald C nM1 kM1 dX12_hasWith_23 ?_
      refine x_iloadn C dX12_hasWith_24 (x := p1) rfl ?_
      refine x_icmpne C dX12_hasWith_25 (tgt := 30) (by decide) (fun _h => ?_) (fun _h => ?_)
      · refine x_iinc C dX12_hasWith_30 (v := (x2 + (1 : Int32))) rfl rfl (L' := [some (.ref ((wM b).2.2.2 + 0)), some (.int p1), some (.int (x2 + (1 : Int32)))]) rfl ?_
        refine x_goto C dX12_hasWith_33 (tgt := 2) (by decide) ?_
        exact x_wk (L' := [some (.ref ((wM b).2.2.2 + 0)), some (.int p1), some (.int (x2 + (1 : Int32)))]) (And.intro rfl (And.intro rfl (And.intro rfl trivial))) (ih ((x2 + (1 : Int32))))
      · refine x_iconst C dX12_hasWith_28 (v := (1 : Int32)) (by decide) ?_
        exact x_zret C dX12_hasWith_29 rfl rfl
set_option maxHeartbeats 4000000 in
set_option maxRecDepth 20000 in
theorem c_md_hasWith {l : Launch} {g : GG} {b : Nat} (p1 : Int32) (M : Mem) : CT l g (wM b) (rmd 1) yX12_hasWith cX12_hasWith 3 (some .boolean) [.ref ((wM b).2.2.2 + 0), .int p1] M (finI M) (md_hasWith p1 M) := by
  refine CT.of rfl (Nat.le_of_ble_eq_true rfl) (catc rfl (catc rfl cat0)) (fun z C => ?_)
  have C : Cx z l g (wM b) (rmd 1) cX12_hasWith 3 RX12 (some .boolean) := C
  refine x_wk (L' := [some (.ref ((wM b).2.2.2 + 0)), some (.int p1), none]) (And.intro rfl (And.intro rfl trivial)) ?_
  rw [md_hasWith]
  refine x_iconst C dX12_hasWith_0 (v := (0 : Int32)) (by decide) ?_
  refine x_istoren C dX12_hasWith_1 (L' := [some (.ref ((wM b).2.2.2 + 0)), some (.int p1), some (.int (0 : Int32))]) (ltb rfl) rfl ?_
  refine x_wk (L' := [some (.ref ((wM b).2.2.2 + 0)), some (.int p1), some (.int (0 : Int32))]) (And.intro rfl (And.intro rfl (And.intro rfl trivial))) (w_md_hasWith_L2 C p1  M ?_ FU ((0 : Int32)) )
  refine x_iconst C dX12_hasWith_36 (v := (0 : Int32)) (by decide) ?_
  exact x_zret C dX12_hasWith_37 rfl rfl
def md_mayCross_L103 (p1 : Int32) (p2 : Int32) (p3 : Int32) (p4 : Int32) (y6 : Int32) (y7 : Int32) (y9 : Int32) (y10 : Int32) (M : Mem) (K : Option (Int32 × Mem)) : Nat → Int32 → Option (Int32 × Mem)
  | 0, _ => none
  | fu + 1, x11 => (if x11 < (M 1 13) then chk (inb ((124 : Int32) + ((2 : Int32) * x11)) 648) ((md_isOf (p3) ((M 1 ((124 : Int32) + ((2 : Int32) * x11)).toNatClampNeg)) M).bind fun v5 => (if v5 = 0 then md_mayCross_L103 p1 p2 p3 p4 y6 y7 y9 y10 M K fu ((x11 + (1 : Int32))) else chk (inb (((124 : Int32) + ((2 : Int32) * x11)) + (1 : Int32)) 648) ((md_isOf (p3) ((M 1 (((124 : Int32) + ((2 : Int32) * x11)) + (1 : Int32)).toNatClampNeg)) M).bind fun v6 => (if v6 = 0 then some ((0 : Int32), M) else md_mayCross_L103 p1 p2 p3 p4 y6 y7 y9 y10 M K fu ((x11 + (1 : Int32))))))) else K)
def md_mayCross_J20 (p1 : Int32) (p2 : Int32) (p3 : Int32) (p4 : Int32) (x5 : Int32) (s0 : Int32) (M : Mem) : Option (Int32 × Mem) := (if (p3 &&& (s0 ^^^ (-1 : Int32))) = 0 then (if (p4 &&& ((x5 &&& (s0 ^^^ (-1 : Int32))) ^^^ (-1 : Int32))) = 0 then (md_weightOf (p3) M).bind fun v2 => (md_needOf (v2) M).bind fun v3 => (md_forceOfAll (p4) M).bind fun v4 => (if (M 1 5) < v2 then some ((0 : Int32), M) else (if v4 < v3 then some ((0 : Int32), M) else (if v4 = 0 then some ((0 : Int32), M) else md_mayCross_L103 p1 p2 p3 p4 (s0) ((x5 &&& (s0 ^^^ (-1 : Int32)))) (v3) (v4) M ((md_mayBe ((s0 &&& (p3 ^^^ (-1 : Int32)))) M).bind fun v8 => (if v8 = 0 then some ((0 : Int32), M) else (md_mayBe ((x5 &&& (s0 ^^^ (-1 : Int32)))) M).bind fun v9 => (if v9 = 0 then some ((0 : Int32), M) else (md_mayBe (((x5 &&& (s0 ^^^ (-1 : Int32))) ||| p3)) M).bind fun v10 => (if v10 = 0 then some ((0 : Int32), M) else (md_minutesBy (v3) (v4) M).bind fun v11 => lt1 (wr M 0 17 v11) fun M12 => some ((1 : Int32), M12))))) FU ((0 : Int32))))) else some ((0 : Int32), M)) else some ((0 : Int32), M))
def md_mayCross (p1 : Int32) (p2 : Int32) (p3 : Int32) (p4 : Int32) (M : Mem) : Option (Int32 × Mem) := (md_everybody M).bind fun v1 => (if p2 = 0 then md_mayCross_J20 p1 p2 p3 p4 (v1) ((v1 &&& (p1 ^^^ (-1 : Int32)))) M else md_mayCross_J20 p1 p2 p3 p4 (v1) (p1) M)
set_option maxHeartbeats 4000000 in
set_option maxRecDepth 20000 in
theorem w_md_mayCross_L103 {z : ZT} {l : Launch} {g : GG} {b : Nat} (C : Cx z l g (wM b) (rmd 4) cX12_mayCross 12 RX12 (some .boolean)) (p1 : Int32) (p2 : Int32) (p3 : Int32) (p4 : Int32) (y6 : Int32) (y7 : Int32) (y9 : Int32) (y10 : Int32) (M : Mem) {K : Option (Int32 × Mem)} (hK : XG z g (wM b) 12 (ZQ z g (wM b) finM) 0 0 163 [some (.ref ((wM b).2.2.2 + 0)), none, none, some (.int p3), none, none, some (.int y6), some (.int y7), none, some (.int y9), some (.int y10), none] [] M (K )) : ∀ (fu : Nat) (x11 : Int32), XG z g (wM b) 12 (ZQ z g (wM b) finM) 0 0 103 [some (.ref ((wM b).2.2.2 + 0)), none, none, some (.int p3), none, none, some (.int y6), some (.int y7), none, some (.int y9), some (.int y10), some (.int x11)] [] M (md_mayCross_L103 p1 p2 p3 p4 y6 y7 y9 y10 M K fu x11) := by
  intro fu
  induction fu with
  | zero => intro x11; exact x_none
  | succ fu ih =>
    intro x11
    rw [md_mayCross_L103]
    refine x_iload C dX12_mayCross_103 (x := x11) rfl ?_
    refine x_aloadn C dX12_mayCross_105 rfl ?_
    refine x_getR C fl_X12_7 cl_11 (1) nM0 kM0 fM0_1 dX12_mayCross_106 ?_
    refine x_bipush C dX12_mayCross_109 (v := (13 : Int32)) (by decide) ?_
    refine x_ialdj C nM1 kM1 (j := 13) (by decide) (by decide) dX12_mayCross_111 ?_
    refine x_icmpge C dX12_mayCross_112 (tgt := 163) (by decide) (fun _h => ?_) (fun _h => ?_)
    · exact x_wk (L' := [some (.ref ((wM b).2.2.2 + 0)), none, none, some (.int p3), none, none, some (.int y6), some (.int y7), none, some (.int y9), some (.int y10), none]) (And.intro rfl (And.intro rfl (And.intro rfl (And.intro rfl (And.intro rfl (And.intro rfl trivial)))))) (hK )
    · refine x_iloadn C dX12_mayCross_115 (x := p3) rfl ?_
      refine x_aloadn C dX12_mayCross_116 rfl ?_
      refine x_getR C fl_X12_7 cl_11 (1) nM0 kM0 fM0_1 dX12_mayCross_117 ?_
      refine x_bipush C dX12_mayCross_120 (v := (124 : Int32)) (by decide) ?_
      refine x_iconst C dX12_mayCross_122 (v := (2 : Int32)) (by decide) ?_
      refine x_iload C dX12_mayCross_123 (x := x11) rfl ?_
      refine x_imul C dX12_mayCross_125 ?_
      refine x_iadd C dX12_mayCross_126 ?_
      refine x_iald C nM1 kM1 dX12_mayCross_127 ?_
      refine x_Si (st := []) C (c_md_isOf  (p3) ((M 1 ((124 : Int32) + ((2 : Int32) * x11)).toNatClampNeg)) M) lk_X12_70 rfl rfl (Nat.le_of_ble_eq_true rfl) (rmok_d (by decide) (by decide)) ⟨Nat.zero_le _, Nat.zero_le _⟩ dX12_mayCross_128 (fun v5 => ?_)
      refine x_ifeq C dX12_mayCross_131 (tgt := 157) (by decide) (fun _h => ?_) (fun _h => ?_)
      · refine x_iinc C dX12_mayCross_157 (v := (x11 + (1 : Int32))) rfl rfl (L' := [some (.ref ((wM b).2.2.2 + 0)), none, none, some (.int p3), none, none, some (.int y6), some (.int y7), none, some (.int y9), some (.int y10), some (.int (x11 + (1 : Int32)))]) rfl ?_
        refine x_goto C dX12_mayCross_160 (tgt := 103) (by decide) ?_
        exact x_wk (L' := [some (.ref ((wM b).2.2.2 + 0)), none, none, some (.int p3), none, none, some (.int y6), some (.int y7), none, some (.int y9), some (.int y10), some (.int (x11 + (1 : Int32)))]) (And.intro rfl (And.intro rfl (And.intro rfl (And.intro rfl (And.intro rfl (And.intro rfl (And.intro rfl trivial))))))) (ih ((x11 + (1 : Int32))))
      · refine x_iloadn C dX12_mayCross_134 (x := p3) rfl ?_
        refine x_aloadn C dX12_mayCross_135 rfl ?_
        refine x_getR C fl_X12_7 cl_11 (1) nM0 kM0 fM0_1 dX12_mayCross_136 ?_
        refine x_bipush C dX12_mayCross_139 (v := (124 : Int32)) (by decide) ?_
        refine x_iconst C dX12_mayCross_141 (v := (2 : Int32)) (by decide) ?_
        refine x_iload C dX12_mayCross_142 (x := x11) rfl ?_
        refine x_imul C dX12_mayCross_144 ?_
        refine x_iadd C dX12_mayCross_145 ?_
        refine x_iconst C dX12_mayCross_146 (v := (1 : Int32)) (by decide) ?_
        refine x_iadd C dX12_mayCross_147 ?_
        refine x_iald C nM1 kM1 dX12_mayCross_148 ?_
        refine x_Si (st := []) C (c_md_isOf  (p3) ((M 1 (((124 : Int32) + ((2 : Int32) * x11)) + (1 : Int32)).toNatClampNeg)) M) lk_X12_70 rfl rfl (Nat.le_of_ble_eq_true rfl) (rmok_d (by decide) (by decide)) ⟨Nat.zero_le _, Nat.zero_le _⟩ dX12_mayCross_149 (fun v6 => ?_)
        refine x_ifne C dX12_mayCross_152 (tgt := 157) (by decide) (fun _h => ?_) (fun _h => ?_)
        · refine x_iinc C dX12_mayCross_157 (v := (x11 + (1 : Int32))) rfl rfl (L' := [some (.ref ((wM b).2.2.2 + 0)), none, none, some (.int p3), none, none, some (.int y6), some (.int y7), none, some (.int y9), some (.int y10), some (.int (x11 + (1 : Int32)))]) rfl ?_
          refine x_goto C dX12_mayCross_160 (tgt := 103) (by decide) ?_
          exact x_wk (L' := [some (.ref ((wM b).2.2.2 + 0)), none, none, some (.int p3), none, none, some (.int y6), some (.int y7), none, some (.int y9), some (.int y10), some (.int (x11 + (1 : Int32)))]) (And.intro rfl (And.intro rfl (And.intro rfl (And.intro rfl (And.intro rfl (And.intro rfl (And.intro rfl trivial))))))) (ih ((x11 + (1 : Int32))))
        · refine x_iconst C dX12_mayCross_155 (v := (0 : Int32)) (by decide) ?_
          exact x_zret C dX12_mayCross_156 rfl rfl
set_option maxHeartbeats 4000000 in
set_option maxRecDepth 20000 in
theorem w_md_mayCross_J20 {z : ZT} {l : Launch} {g : GG} {b : Nat} (C : Cx z l g (wM b) (rmd 4) cX12_mayCross 12 RX12 (some .boolean)) (p1 : Int32) (p2 : Int32) (p3 : Int32) (p4 : Int32)  (x5 : Int32) (s0 : Int32) (M : Mem) : XG z g (wM b) 12 (ZQ z g (wM b) finM) 0 0 20 [some (.ref ((wM b).2.2.2 + 0)), none, none, some (.int p3), some (.int p4), some (.int x5), none, none, none, none, none, none] [.int s0] M (md_mayCross_J20 p1 p2 p3 p4 x5 s0 M) := by
  rw [md_mayCross_J20]
  refine x_istore C dX12_mayCross_20 (L' := [some (.ref ((wM b).2.2.2 + 0)), none, none, some (.int p3), some (.int p4), some (.int x5), some (.int s0), none, none, none, none, none]) (ltb rfl) rfl ?_
  refine x_iload C dX12_mayCross_22 (x := x5) rfl ?_
  refine x_iload C dX12_mayCross_24 (x := s0) rfl ?_
  refine x_iconst C dX12_mayCross_26 (v := (-1 : Int32)) (by decide) ?_
  refine x_ixor C dX12_mayCross_27 ?_
  refine x_iand C dX12_mayCross_28 ?_
  refine x_istore C dX12_mayCross_29 (L' := [some (.ref ((wM b).2.2.2 + 0)), none, none, some (.int p3), some (.int p4), some (.int x5), some (.int s0), some (.int (x5 &&& (s0 ^^^ (-1 : Int32)))), none, none, none, none]) (ltb rfl) rfl ?_
  refine x_iloadn C dX12_mayCross_31 (x := p3) rfl ?_
  refine x_iload C dX12_mayCross_32 (x := s0) rfl ?_
  refine x_iconst C dX12_mayCross_34 (v := (-1 : Int32)) (by decide) ?_
  refine x_ixor C dX12_mayCross_35 ?_
  refine x_iand C dX12_mayCross_36 ?_
  refine x_ifne C dX12_mayCross_37 (tgt := 50) (by decide) (fun _h => ?_) (fun _h => ?_)
  · refine x_iconst C dX12_mayCross_50 (v := (0 : Int32)) (by decide) ?_
    exact x_zret C dX12_mayCross_51 rfl rfl
  · refine x_iload C dX12_mayCross_40 (x := p4) rfl ?_
    refine x_iload C dX12_mayCross_42 (x := (x5 &&& (s0 ^^^ (-1 : Int32)))) rfl ?_
    refine x_iconst C dX12_mayCross_44 (v := (-1 : Int32)) (by decide) ?_
    refine x_ixor C dX12_mayCross_45 ?_
    refine x_iand C dX12_mayCross_46 ?_
    refine x_ifeq C dX12_mayCross_47 (tgt := 52) (by decide) (fun _h => ?_) (fun _h => ?_)
    · refine x_aloadn C dX12_mayCross_52 rfl ?_
      refine x_iloadn C dX12_mayCross_53 (x := p3) rfl ?_
      refine x_Vi (st := []) C (c_md_weightOf  (p3) M) lk_X12_211 nM0 kM0 ⟨_, _, rfl⟩ rfl rfl (Nat.le_of_ble_eq_true rfl) (rmok_d (by decide) (by decide)) ⟨Nat.zero_le _, Nat.zero_le _⟩ dX12_mayCross_54 (fun v2 => ?_)
      refine x_istore C dX12_mayCross_57 (L' := [some (.ref ((wM b).2.2.2 + 0)), none, none, some (.int p3), some (.int p4), some (.int x5), some (.int s0), some (.int (x5 &&& (s0 ^^^ (-1 : Int32)))), some (.int v2), none, none, none]) (ltb rfl) rfl ?_
      refine x_aloadn C dX12_mayCross_59 rfl ?_
      refine x_iload C dX12_mayCross_60 (x := v2) rfl ?_
      refine x_Vi (st := []) C (c_md_needOf  (v2) M) lk_X12_214 nM0 kM0 ⟨_, _, rfl⟩ rfl rfl (Nat.le_of_ble_eq_true rfl) (rmok_d (by decide) (by decide)) ⟨Nat.zero_le _, Nat.zero_le _⟩ dX12_mayCross_62 (fun v3 => ?_)
      refine x_istore C dX12_mayCross_65 (L' := [some (.ref ((wM b).2.2.2 + 0)), none, none, some (.int p3), some (.int p4), some (.int x5), some (.int s0), some (.int (x5 &&& (s0 ^^^ (-1 : Int32)))), some (.int v2), some (.int v3), none, none]) (ltb rfl) rfl ?_
      refine x_aloadn C dX12_mayCross_67 rfl ?_
      refine x_iload C dX12_mayCross_68 (x := p4) rfl ?_
      refine x_Vi (st := []) C (c_md_forceOfAll  (p4) M) lk_X12_217 nM0 kM0 ⟨_, _, rfl⟩ rfl rfl (Nat.le_of_ble_eq_true rfl) (rmok_d (by decide) (by decide)) ⟨Nat.zero_le _, Nat.zero_le _⟩ dX12_mayCross_70 (fun v4 => ?_)
      refine x_istore C dX12_mayCross_73 (L' := [some (.ref ((wM b).2.2.2 + 0)), none, none, some (.int p3), some (.int p4), some (.int x5), some (.int s0), some (.int (x5 &&& (s0 ^^^ (-1 : Int32)))), some (.int v2), some (.int v3), some (.int v4), none]) (ltb rfl) rfl ?_
      refine x_iload C dX12_mayCross_75 (x := v2) rfl ?_
      refine x_aloadn C dX12_mayCross_77 rfl ?_
      refine x_getR C fl_X12_7 cl_11 (1) nM0 kM0 fM0_1 dX12_mayCross_78 ?_
      refine x_iconst C dX12_mayCross_81 (v := (5 : Int32)) (by decide) ?_
      refine x_ialdj C nM1 kM1 (j := 5) (by decide) (by decide) dX12_mayCross_82 ?_
      refine x_icmpgt C dX12_mayCross_83 (tgt := 98) (by decide) (fun _h => ?_) (fun _h => ?_)
      · refine x_iconst C dX12_mayCross_98 (v := (0 : Int32)) (by decide) ?_
        exact x_zret C dX12_mayCross_99 rfl rfl
      · refine x_iload C dX12_mayCross_86 (x := v4) rfl ?_
        refine x_iload C dX12_mayCross_88 (x := v3) rfl ?_
        refine x_icmplt C dX12_mayCross_90 (tgt := 98) (by decide) (fun _h => ?_) (fun _h => ?_)
        · refine x_iconst C dX12_mayCross_98 (v := (0 : Int32)) (by decide) ?_
          exact x_zret C dX12_mayCross_99 rfl rfl
        · refine x_iload C dX12_mayCross_93 (x := v4) rfl ?_
          refine x_ifne C dX12_mayCross_95 (tgt := 100) (by decide) (fun _h => ?_) (fun _h => ?_)
          · refine x_iconst C dX12_mayCross_100 (v := (0 : Int32)) (by decide) ?_
            refine x_istore C dX12_mayCross_101 (L' := [some (.ref ((wM b).2.2.2 + 0)), none, none, some (.int p3), some (.int p4), some (.int x5), some (.int s0), some (.int (x5 &&& (s0 ^^^ (-1 : Int32)))), some (.int v2), some (.int v3), some (.int v4), some (.int (0 : Int32))]) (ltb rfl) rfl ?_
            refine x_wk (L' := [some (.ref ((wM b).2.2.2 + 0)), none, none, some (.int p3), none, none, some (.int s0), some (.int (x5 &&& (s0 ^^^ (-1 : Int32)))), none, some (.int v3), some (.int v4), some (.int (0 : Int32))]) (And.intro rfl (And.intro rfl (And.intro rfl (And.intro rfl (And.intro rfl (And.intro rfl (And.intro rfl trivial))))))) (w_md_mayCross_L103 C p1 p2 p3 p4 (s0) ((x5 &&& (s0 ^^^ (-1 : Int32)))) (v3) (v4) M ?_ FU ((0 : Int32)) )
            refine x_aloadn C dX12_mayCross_163 rfl ?_
            refine x_iload C dX12_mayCross_164 (x := s0) rfl ?_
            refine x_iloadn C dX12_mayCross_166 (x := p3) rfl ?_
            refine x_iconst C dX12_mayCross_167 (v := (-1 : Int32)) (by decide) ?_
            refine x_ixor C dX12_mayCross_168 ?_
            refine x_iand C dX12_mayCross_169 ?_
            refine x_Vi (st := []) C (c_md_mayBe  ((s0 &&& (p3 ^^^ (-1 : Int32)))) M) lk_X12_220 nM0 kM0 ⟨_, _, rfl⟩ rfl rfl (Nat.le_of_ble_eq_true rfl) (rmok_d (by decide) (by decide)) ⟨Nat.zero_le _, Nat.zero_le _⟩ dX12_mayCross_170 (fun v8 => ?_)
            refine x_ifeq C dX12_mayCross_173 (tgt := 196) (by decide) (fun _h => ?_) (fun _h => ?_)
            · refine x_iconst C dX12_mayCross_196 (v := (0 : Int32)) (by decide) ?_
              exact x_zret C dX12_mayCross_197 rfl rfl
            · refine x_aloadn C dX12_mayCross_176 rfl ?_
              refine x_iload C dX12_mayCross_177 (x := (x5 &&& (s0 ^^^ (-1 : Int32)))) rfl ?_
              refine x_Vi (st := []) C (c_md_mayBe  ((x5 &&& (s0 ^^^ (-1 : Int32)))) M) lk_X12_220 nM0 kM0 ⟨_, _, rfl⟩ rfl rfl (Nat.le_of_ble_eq_true rfl) (rmok_d (by decide) (by decide)) ⟨Nat.zero_le _, Nat.zero_le _⟩ dX12_mayCross_179 (fun v9 => ?_)
              refine x_ifeq C dX12_mayCross_182 (tgt := 196) (by decide) (fun _h => ?_) (fun _h => ?_)
              · refine x_iconst C dX12_mayCross_196 (v := (0 : Int32)) (by decide) ?_
                exact x_zret C dX12_mayCross_197 rfl rfl
              · refine x_aloadn C dX12_mayCross_185 rfl ?_
                refine x_iload C dX12_mayCross_186 (x := (x5 &&& (s0 ^^^ (-1 : Int32)))) rfl ?_
                refine x_iloadn C dX12_mayCross_188 (x := p3) rfl ?_
                refine x_ior C dX12_mayCross_189 ?_
                refine x_Vi (st := []) C (c_md_mayBe  (((x5 &&& (s0 ^^^ (-1 : Int32))) ||| p3)) M) lk_X12_220 nM0 kM0 ⟨_, _, rfl⟩ rfl rfl (Nat.le_of_ble_eq_true rfl) (rmok_d (by decide) (by decide)) ⟨Nat.zero_le _, Nat.zero_le _⟩ dX12_mayCross_190 (fun v10 => ?_)
                refine x_ifne C dX12_mayCross_193 (tgt := 198) (by decide) (fun _h => ?_) (fun _h => ?_)
                · refine x_aloadn C dX12_mayCross_198 rfl ?_
                  refine x_aloadn C dX12_mayCross_199 rfl ?_
                  refine x_iload C dX12_mayCross_200 (x := v3) rfl ?_
                  refine x_iload C dX12_mayCross_202 (x := v4) rfl ?_
                  refine x_Vi (st := [.ref ((wM b).2.2.2 + 0)]) C (c_md_minutesBy  (v3) (v4) M) lk_X12_223 nM0 kM0 ⟨_, _, rfl⟩ rfl rfl (Nat.le_of_ble_eq_true rfl) (rmok_d (by decide) (by decide)) ⟨Nat.zero_le _, Nat.zero_le _⟩ dX12_mayCross_204 (fun v11 => ?_)
                  refine x_putI C fl_X12_226 cl_11 fint_11_17 nM0 kM0 fM0_17 dX12_mayCross_207 ?_
                  refine x_ltM (fun M12 => ?_)
                  refine x_iconst C dX12_mayCross_210 (v := (1 : Int32)) (by decide) ?_
                  exact x_zret C dX12_mayCross_211 rfl rfl
                · refine x_iconst C dX12_mayCross_196 (v := (0 : Int32)) (by decide) ?_
                  exact x_zret C dX12_mayCross_197 rfl rfl
          · refine x_iconst C dX12_mayCross_98 (v := (0 : Int32)) (by decide) ?_
            exact x_zret C dX12_mayCross_99 rfl rfl
    · refine x_iconst C dX12_mayCross_50 (v := (0 : Int32)) (by decide) ?_
      exact x_zret C dX12_mayCross_51 rfl rfl
set_option maxHeartbeats 4000000 in
set_option maxRecDepth 20000 in
theorem c_md_mayCross {l : Launch} {g : GG} {b : Nat} (p1 : Int32) (p2 : Int32) (p3 : Int32) (p4 : Int32) (M : Mem) : CT l g (wM b) (rmd 4) yX12_mayCross cX12_mayCross 12 (some .boolean) [.ref ((wM b).2.2.2 + 0), .int p1, .int p2, .int p3, .int p4] M finM (md_mayCross p1 p2 p3 p4 M) := by
  refine CT.of rfl (Nat.le_of_ble_eq_true rfl) (catc rfl (catc rfl (catc rfl (catc rfl (catc rfl cat0))))) (fun z C => ?_)
  have C : Cx z l g (wM b) (rmd 4) cX12_mayCross 12 RX12 (some .boolean) := C
  refine x_wk (L' := [some (.ref ((wM b).2.2.2 + 0)), some (.int p1), some (.int p2), some (.int p3), some (.int p4), none, none, none, none, none, none, none]) (And.intro rfl (And.intro rfl (And.intro rfl (And.intro rfl (And.intro rfl trivial))))) ?_
  rw [md_mayCross]
  refine x_aloadn C dX12_mayCross_0 rfl ?_
  refine x_Vi (st := []) C (c_md_everybody   M) lk_X12_208 nM0 kM0 ⟨_, _, rfl⟩ rfl rfl (Nat.le_of_ble_eq_true rfl) (rmok_d (by decide) (by decide)) ⟨Nat.zero_le _, Nat.zero_le _⟩ dX12_mayCross_1 (fun v1 => ?_)
  refine x_istore C dX12_mayCross_4 (L' := [some (.ref ((wM b).2.2.2 + 0)), some (.int p1), some (.int p2), some (.int p3), some (.int p4), some (.int v1), none, none, none, none, none, none]) (ltb rfl) rfl ?_
  refine x_iloadn C dX12_mayCross_6 (x := p2) rfl ?_
  refine x_ifne C dX12_mayCross_7 (tgt := 19) (by decide) (fun _h => ?_) (fun _h => ?_)
  · refine x_iloadn C dX12_mayCross_19 (x := p1) rfl ?_
    exact x_wk (L' := [some (.ref ((wM b).2.2.2 + 0)), none, none, some (.int p3), some (.int p4), some (.int v1), none, none, none, none, none, none]) (And.intro rfl (And.intro rfl (And.intro rfl (And.intro rfl trivial)))) (w_md_mayCross_J20 C p1 p2 p3 p4  (v1) (p1) M)
  · refine x_iload C dX12_mayCross_10 (x := v1) rfl ?_
    refine x_iloadn C dX12_mayCross_12 (x := p1) rfl ?_
    refine x_iconst C dX12_mayCross_13 (v := (-1 : Int32)) (by decide) ?_
    refine x_ixor C dX12_mayCross_14 ?_
    refine x_iand C dX12_mayCross_15 ?_
    refine x_goto C dX12_mayCross_16 (tgt := 20) (by decide) ?_
    exact x_wk (L' := [some (.ref ((wM b).2.2.2 + 0)), none, none, some (.int p3), some (.int p4), some (.int v1), none, none, none, none, none, none]) (And.intro rfl (And.intro rfl (And.intro rfl (And.intro rfl trivial)))) (w_md_mayCross_J20 C p1 p2 p3 p4  (v1) ((v1 &&& (p1 ^^^ (-1 : Int32)))) M)
def md_maySwim_J22 (p1 : Int32) (p2 : Int32) (x3 : Int32) (s0 : Int32) (M : Mem) : Option Int32 := (md_of (p2) ((3 : Int32)) M).bind fun v3 => (if v3 = 0 then some ((0 : Int32)) else (md_forceOf (p2) M).bind fun v4 => (md_stream M).bind fun v5 => (if v4 < v5 then some ((0 : Int32)) else (md_hasWith (p2) M).bind fun v6 => (if v6 = 0 then (md_mayBe ((s0 &&& (((1 : Int32) <<< (p2 &&& 31)) ^^^ (-1 : Int32)))) M).bind fun v7 => (if v7 = 0 then some ((0 : Int32)) else (md_mayBe ((x3 &&& (s0 ^^^ (-1 : Int32)))) M).bind fun v8 => (if v8 = 0 then some ((0 : Int32)) else (md_mayBe (((x3 &&& (s0 ^^^ (-1 : Int32))) ||| ((1 : Int32) <<< (p2 &&& 31)))) M).bind fun v9 => (if v9 = 0 then some ((0 : Int32)) else some ((1 : Int32))))) else some ((0 : Int32)))))
def md_maySwim (p1 : Int32) (p2 : Int32) (M : Mem) : Option Int32 := (md_everybody M).bind fun v1 => (md_isOf (p1) (p2) M).bind fun v2 => (if v2 = 0 then md_maySwim_J22 p1 p2 (v1) ((v1 &&& (p1 ^^^ (-1 : Int32)))) M else md_maySwim_J22 p1 p2 (v1) (p1) M)
set_option maxHeartbeats 4000000 in
set_option maxRecDepth 20000 in
theorem w_md_maySwim_J22 {z : ZT} {l : Launch} {g : GG} {b : Nat} (C : Cx z l g (wM b) (rmd 3) cX12_maySwim 6 RX12 (some .boolean)) (p1 : Int32) (p2 : Int32) (M : Mem) (x3 : Int32) (s0 : Int32) : XG z g (wM b) 6 (ZQ z g (wM b) (finI M)) 0 0 22 [some (.ref ((wM b).2.2.2 + 0)), none, some (.int p2), some (.int x3), none, none] [.int s0] M (md_maySwim_J22 p1 p2 x3 s0 M) := by
  rw [md_maySwim_J22]
  refine x_istore C dX12_maySwim_22 (L' := [some (.ref ((wM b).2.2.2 + 0)), none, some (.int p2), some (.int x3), some (.int s0), none]) (ltb rfl) rfl ?_
  refine x_iloadn C dX12_maySwim_24 (x := x3) rfl ?_
  refine x_iload C dX12_maySwim_25 (x := s0) rfl ?_
  refine x_iconst C dX12_maySwim_27 (v := (-1 : Int32)) (by decide) ?_
  refine x_ixor C dX12_maySwim_28 ?_
  refine x_iand C dX12_maySwim_29 ?_
  refine x_istore C dX12_maySwim_30 (L' := [some (.ref ((wM b).2.2.2 + 0)), none, some (.int p2), some (.int x3), some (.int s0), some (.int (x3 &&& (s0 ^^^ (-1 : Int32))))]) (ltb rfl) rfl ?_
  refine x_aloadn C dX12_maySwim_32 rfl ?_
  refine x_iloadn C dX12_maySwim_33 (x := p2) rfl ?_
  refine x_iconst C dX12_maySwim_34 (v := (3 : Int32)) (by decide) ?_
  refine x_Vi (st := []) C (c_md_of  (p2) ((3 : Int32)) M) lk_X12_66 nM0 kM0 ⟨_, _, rfl⟩ rfl rfl (Nat.le_of_ble_eq_true rfl) (rmok_d (by decide) (by decide)) ⟨Nat.zero_le _, Nat.zero_le _⟩ dX12_maySwim_35 (fun v3 => ?_)
  refine x_ifeq C dX12_maySwim_38 (tgt := 61) (by decide) (fun _h => ?_) (fun _h => ?_)
  · refine x_iconst C dX12_maySwim_61 (v := (0 : Int32)) (by decide) ?_
    exact x_zret C dX12_maySwim_62 rfl rfl
  · refine x_aloadn C dX12_maySwim_41 rfl ?_
    refine x_iloadn C dX12_maySwim_42 (x := p2) rfl ?_
    refine x_Vi (st := []) C (c_md_forceOf  (p2) M) lk_X12_74 nM0 kM0 ⟨_, _, rfl⟩ rfl rfl (Nat.le_of_ble_eq_true rfl) (rmok_d (by decide) (by decide)) ⟨Nat.zero_le _, Nat.zero_le _⟩ dX12_maySwim_43 (fun v4 => ?_)
    refine x_aloadn C dX12_maySwim_46 rfl ?_
    refine x_Vi (st := [.int v4]) C (c_md_stream   M) lk_X12_78 nM0 kM0 ⟨_, _, rfl⟩ rfl rfl (Nat.le_of_ble_eq_true rfl) (rmok_d (by decide) (by decide)) ⟨Nat.zero_le _, Nat.zero_le _⟩ dX12_maySwim_47 (fun v5 => ?_)
    refine x_icmplt C dX12_maySwim_50 (tgt := 61) (by decide) (fun _h => ?_) (fun _h => ?_)
    · refine x_iconst C dX12_maySwim_61 (v := (0 : Int32)) (by decide) ?_
      exact x_zret C dX12_maySwim_62 rfl rfl
    · refine x_aloadn C dX12_maySwim_53 rfl ?_
      refine x_iloadn C dX12_maySwim_54 (x := p2) rfl ?_
      refine x_Vi (st := []) C (c_md_hasWith  (p2) M) lk_X12_229 nM0 kM0 ⟨_, _, rfl⟩ rfl rfl (Nat.le_of_ble_eq_true rfl) (rmok_d (by decide) (by decide)) ⟨Nat.zero_le _, Nat.zero_le _⟩ dX12_maySwim_55 (fun v6 => ?_)
      refine x_ifeq C dX12_maySwim_58 (tgt := 63) (by decide) (fun _h => ?_) (fun _h => ?_)
      · refine x_aloadn C dX12_maySwim_63 rfl ?_
        refine x_iload C dX12_maySwim_64 (x := s0) rfl ?_
        refine x_iconst C dX12_maySwim_66 (v := (1 : Int32)) (by decide) ?_
        refine x_iloadn C dX12_maySwim_67 (x := p2) rfl ?_
        refine x_ishl C dX12_maySwim_68 ?_
        refine x_iconst C dX12_maySwim_69 (v := (-1 : Int32)) (by decide) ?_
        refine x_ixor C dX12_maySwim_70 ?_
        refine x_iand C dX12_maySwim_71 ?_
        refine x_Vi (st := []) C (c_md_mayBe  ((s0 &&& (((1 : Int32) <<< (p2 &&& 31)) ^^^ (-1 : Int32)))) M) lk_X12_220 nM0 kM0 ⟨_, _, rfl⟩ rfl rfl (Nat.le_of_ble_eq_true rfl) (rmok_d (by decide) (by decide)) ⟨Nat.zero_le _, Nat.zero_le _⟩ dX12_maySwim_72 (fun v7 => ?_)
        refine x_ifeq C dX12_maySwim_75 (tgt := 104) (by decide) (fun _h => ?_) (fun _h => ?_)
        · refine x_iconst C dX12_maySwim_104 (v := (0 : Int32)) (by decide) ?_
          exact x_zret C dX12_maySwim_105 rfl rfl
        · refine x_aloadn C dX12_maySwim_78 rfl ?_
          refine x_iload C dX12_maySwim_79 (x := (x3 &&& (s0 ^^^ (-1 : Int32)))) rfl ?_
          refine x_Vi (st := []) C (c_md_mayBe  ((x3 &&& (s0 ^^^ (-1 : Int32)))) M) lk_X12_220 nM0 kM0 ⟨_, _, rfl⟩ rfl rfl (Nat.le_of_ble_eq_true rfl) (rmok_d (by decide) (by decide)) ⟨Nat.zero_le _, Nat.zero_le _⟩ dX12_maySwim_81 (fun v8 => ?_)
          refine x_ifeq C dX12_maySwim_84 (tgt := 104) (by decide) (fun _h => ?_) (fun _h => ?_)
          · refine x_iconst C dX12_maySwim_104 (v := (0 : Int32)) (by decide) ?_
            exact x_zret C dX12_maySwim_105 rfl rfl
          · refine x_aloadn C dX12_maySwim_87 rfl ?_
            refine x_iload C dX12_maySwim_88 (x := (x3 &&& (s0 ^^^ (-1 : Int32)))) rfl ?_
            refine x_iconst C dX12_maySwim_90 (v := (1 : Int32)) (by decide) ?_
            refine x_iloadn C dX12_maySwim_91 (x := p2) rfl ?_
            refine x_ishl C dX12_maySwim_92 ?_
            refine x_ior C dX12_maySwim_93 ?_
            refine x_Vi (st := []) C (c_md_mayBe  (((x3 &&& (s0 ^^^ (-1 : Int32))) ||| ((1 : Int32) <<< (p2 &&& 31)))) M) lk_X12_220 nM0 kM0 ⟨_, _, rfl⟩ rfl rfl (Nat.le_of_ble_eq_true rfl) (rmok_d (by decide) (by decide)) ⟨Nat.zero_le _, Nat.zero_le _⟩ dX12_maySwim_94 (fun v9 => ?_)
            refine x_ifeq C dX12_maySwim_97 (tgt := 104) (by decide) (fun _h => ?_) (fun _h => ?_)
            · refine x_iconst C dX12_maySwim_104 (v := (0 : Int32)) (by decide) ?_
              exact x_zret C dX12_maySwim_105 rfl rfl
            · refine x_iconst C dX12_maySwim_100 (v := (1 : Int32)) (by decide) ?_
              refine x_goto C dX12_maySwim_101 (tgt := 105) (by decide) ?_
              exact x_zret C dX12_maySwim_105 rfl rfl
      · refine x_iconst C dX12_maySwim_61 (v := (0 : Int32)) (by decide) ?_
        exact x_zret C dX12_maySwim_62 rfl rfl
set_option maxHeartbeats 4000000 in
set_option maxRecDepth 20000 in
theorem c_md_maySwim {l : Launch} {g : GG} {b : Nat} (p1 : Int32) (p2 : Int32) (M : Mem) : CT l g (wM b) (rmd 3) yX12_maySwim cX12_maySwim 6 (some .boolean) [.ref ((wM b).2.2.2 + 0), .int p1, .int p2] M (finI M) (md_maySwim p1 p2 M) := by
  refine CT.of rfl (Nat.le_of_ble_eq_true rfl) (catc rfl (catc rfl (catc rfl cat0))) (fun z C => ?_)
  have C : Cx z l g (wM b) (rmd 3) cX12_maySwim 6 RX12 (some .boolean) := C
  refine x_wk (L' := [some (.ref ((wM b).2.2.2 + 0)), some (.int p1), some (.int p2), none, none, none]) (And.intro rfl (And.intro rfl (And.intro rfl trivial))) ?_
  rw [md_maySwim]
  refine x_aloadn C dX12_maySwim_0 rfl ?_
  refine x_Vi (st := []) C (c_md_everybody   M) lk_X12_208 nM0 kM0 ⟨_, _, rfl⟩ rfl rfl (Nat.le_of_ble_eq_true rfl) (rmok_d (by decide) (by decide)) ⟨Nat.zero_le _, Nat.zero_le _⟩ dX12_maySwim_1 (fun v1 => ?_)
  refine x_istoren C dX12_maySwim_4 (L' := [some (.ref ((wM b).2.2.2 + 0)), some (.int p1), some (.int p2), some (.int v1), none, none]) (ltb rfl) rfl ?_
  refine x_iloadn C dX12_maySwim_5 (x := p1) rfl ?_
  refine x_iloadn C dX12_maySwim_6 (x := p2) rfl ?_
  refine x_Si (st := []) C (c_md_isOf  (p1) (p2) M) lk_X12_70 rfl rfl (Nat.le_of_ble_eq_true rfl) (rmok_d (by decide) (by decide)) ⟨Nat.zero_le _, Nat.zero_le _⟩ dX12_maySwim_7 (fun v2 => ?_)
  refine x_ifeq C dX12_maySwim_10 (tgt := 17) (by decide) (fun _h => ?_) (fun _h => ?_)
  · refine x_iloadn C dX12_maySwim_17 (x := v1) rfl ?_
    refine x_iloadn C dX12_maySwim_18 (x := p1) rfl ?_
    refine x_iconst C dX12_maySwim_19 (v := (-1 : Int32)) (by decide) ?_
    refine x_ixor C dX12_maySwim_20 ?_
    refine x_iand C dX12_maySwim_21 ?_
    exact x_wk (L' := [some (.ref ((wM b).2.2.2 + 0)), none, some (.int p2), some (.int v1), none, none]) (And.intro rfl (And.intro rfl (And.intro rfl trivial))) (w_md_maySwim_J22 C p1 p2  M (v1) ((v1 &&& (p1 ^^^ (-1 : Int32)))))
  · refine x_iloadn C dX12_maySwim_13 (x := p1) rfl ?_
    refine x_goto C dX12_maySwim_14 (tgt := 22) (by decide) ?_
    exact x_wk (L' := [some (.ref ((wM b).2.2.2 + 0)), none, some (.int p2), some (.int v1), none, none]) (And.intro rfl (And.intro rfl (And.intro rfl trivial))) (w_md_maySwim_J22 C p1 p2  M (v1) (p1))
def md_goOn_L34 (p1 : Int32) (y2 : Int32) (K : Mem → Option Mem) : Nat → Int32 → Mem → Option Mem
  | 0, _, _ => none
  | fu + 1, x3, M => (if x3 < (M 1 1) then (md_of (x3) ((4 : Int32)) M).bind fun v3 => (if (v3 - y2) < 0 then chk (inb (((38 : Int32) + ((5 : Int32) * x3)) + (4 : Int32)) 648) (lt1 (wr M 1 (((38 : Int32) + ((5 : Int32) * x3)) + (4 : Int32)).toNatClampNeg (0 : Int32)) fun M5 => md_goOn_L34 p1 y2 K fu ((x3 + (1 : Int32))) (M5)) else chk (inb (((38 : Int32) + ((5 : Int32) * x3)) + (4 : Int32)) 648) (lt1 (wr M 1 (((38 : Int32) + ((5 : Int32) * x3)) + (4 : Int32)).toNatClampNeg (v3 - y2)) fun M4 => md_goOn_L34 p1 y2 K fu ((x3 + (1 : Int32))) (M4))) else K (M))
def md_goOn (p1 : Int32) (M : Mem) : Option Mem := lt1 (((((M 1 2) + p1) / (60 : Int32)) - ((M 1 2) / (60 : Int32)))) fun v1 => lt1 (wr M 1 2 ((M 1 2) + p1)) fun M2 => md_goOn_L34 p1 (v1) (fun M7 => some M7) FU ((0 : Int32)) M2
set_option maxHeartbeats 4000000 in
set_option maxRecDepth 20000 in
theorem w_md_goOn_L34 {z : ZT} {l : Launch} {g : GG} {b : Nat} (C : Cx z l g (wM b) (rmd 2) cX12_goOn 5 RX12 none) (p1 : Int32) (y2 : Int32) {K : Mem → Option Mem} (hK : ∀ (M : Mem) , XG z g (wM b) 5 (ZQ z g (wM b) finV) 0 0 84 [none, none, none, none, none] [] M (K M)) : ∀ (fu : Nat) (x3 : Int32) (M : Mem), XG z g (wM b) 5 (ZQ z g (wM b) finV) 0 0 34 [some (.ref ((wM b).2.2.2 + 0)), none, some (.int y2), some (.int x3), none] [] M (md_goOn_L34 p1 y2 K fu x3 M) := by
  intro fu
  induction fu with
  | zero => intro x3 M; exact x_none
  | succ fu ih =>
    intro x3 M
    rw [md_goOn_L34]
    refine x_iloadn C dX12_goOn_34 (x := x3) rfl ?_
    refine x_aloadn C dX12_goOn_35 rfl ?_
    refine x_getR C fl_X12_7 cl_11 (1) nM0 kM0 fM0_1 dX12_goOn_36 ?_
    refine x_iconst C dX12_goOn_39 (v := (1 : Int32)) (by decide) ?_
    refine x_ialdj C nM1 kM1 (j := 1) (by decide) (by decide) dX12_goOn_40 ?_
    refine x_icmpge C dX12_goOn_41 (tgt := 84) (by decide) (fun _h => ?_) (fun _h => ?_)
    · exact x_wk (L' := [none, none, none, none, none]) (trivial) (hK (M))
    · refine x_aloadn C dX12_goOn_44 rfl ?_
      refine x_iloadn C dX12_goOn_45 (x := x3) rfl ?_
      refine x_iconst C dX12_goOn_46 (v := (4 : Int32)) (by decide) ?_
      refine x_Vi (st := []) C (c_md_of  (x3) ((4 : Int32)) M) lk_X12_66 nM0 kM0 ⟨_, _, rfl⟩ rfl rfl (Nat.le_of_ble_eq_true rfl) (rmok_d (by decide) (by decide)) ⟨Nat.zero_le _, Nat.zero_le _⟩ dX12_goOn_47 (fun v3 => ?_)
      refine x_iloadn C dX12_goOn_50 (x := y2) rfl ?_
      refine x_isub C dX12_goOn_51 ?_
      refine x_istore C dX12_goOn_52 (L' := [some (.ref ((wM b).2.2.2 + 0)), none, some (.int y2), some (.int x3), some (.int (v3 - y2))]) (ltb rfl) rfl ?_
      refine x_aloadn C dX12_goOn_54 rfl ?_
      refine x_getR C fl_X12_7 cl_11 (1) nM0 kM0 fM0_1 dX12_goOn_55 ?_
      refine x_bipush C dX12_goOn_58 (v := (38 : Int32)) (by decide) ?_
      refine x_iconst C dX12_goOn_60 (v := (5 : Int32)) (by decide) ?_
      refine x_iloadn C dX12_goOn_61 (x := x3) rfl ?_
      refine x_imul C dX12_goOn_62 ?_
      refine x_iadd C dX12_goOn_63 ?_
      refine x_iconst C dX12_goOn_64 (v := (4 : Int32)) (by decide) ?_
      refine x_iadd C dX12_goOn_65 ?_
      refine x_iload C dX12_goOn_66 (x := (v3 - y2)) rfl ?_
      refine x_ifge C dX12_goOn_68 (tgt := 75) (by decide) (fun _h => ?_) (fun _h => ?_)
      · refine x_iload C dX12_goOn_75 (x := (v3 - y2)) rfl ?_
        refine x_iast C nM1 kM1 dX12_goOn_77 ?_
        refine x_ltM (fun M4 => ?_)
        refine x_iinc C dX12_goOn_78 (v := (x3 + (1 : Int32))) rfl rfl (L' := [some (.ref ((wM b).2.2.2 + 0)), none, some (.int y2), some (.int (x3 + (1 : Int32))), some (.int (v3 - y2))]) rfl ?_
        refine x_goto C dX12_goOn_81 (tgt := 34) (by decide) ?_
        exact x_wk (L' := [some (.ref ((wM b).2.2.2 + 0)), none, some (.int y2), some (.int (x3 + (1 : Int32))), none]) (And.intro rfl (And.intro rfl (And.intro rfl trivial))) (ih ((x3 + (1 : Int32))) (M4))
      · refine x_iconst C dX12_goOn_71 (v := (0 : Int32)) (by decide) ?_
        refine x_goto C dX12_goOn_72 (tgt := 77) (by decide) ?_
        refine x_iast C nM1 kM1 dX12_goOn_77 ?_
        refine x_ltM (fun M5 => ?_)
        refine x_iinc C dX12_goOn_78 (v := (x3 + (1 : Int32))) rfl rfl (L' := [some (.ref ((wM b).2.2.2 + 0)), none, some (.int y2), some (.int (x3 + (1 : Int32))), some (.int (v3 - y2))]) rfl ?_
        refine x_goto C dX12_goOn_81 (tgt := 34) (by decide) ?_
        exact x_wk (L' := [some (.ref ((wM b).2.2.2 + 0)), none, some (.int y2), some (.int (x3 + (1 : Int32))), none]) (And.intro rfl (And.intro rfl (And.intro rfl trivial))) (ih ((x3 + (1 : Int32))) (M5))
set_option maxHeartbeats 4000000 in
set_option maxRecDepth 20000 in
theorem c_md_goOn {l : Launch} {g : GG} {b : Nat} (p1 : Int32) (M : Mem) : CT l g (wM b) (rmd 2) yX12_goOn cX12_goOn 5 none [.ref ((wM b).2.2.2 + 0), .int p1] M finV (md_goOn p1 M) := by
  refine CT.of rfl (Nat.le_of_ble_eq_true rfl) (catc rfl (catc rfl cat0)) (fun z C => ?_)
  have C : Cx z l g (wM b) (rmd 2) cX12_goOn 5 RX12 none := C
  refine x_wk (L' := [some (.ref ((wM b).2.2.2 + 0)), some (.int p1), none, none, none]) (And.intro rfl (And.intro rfl trivial)) ?_
  rw [md_goOn]
  refine x_aloadn C dX12_goOn_0 rfl ?_
  refine x_getR C fl_X12_7 cl_11 (1) nM0 kM0 fM0_1 dX12_goOn_1 ?_
  refine x_iconst C dX12_goOn_4 (v := (2 : Int32)) (by decide) ?_
  refine x_ialdj C nM1 kM1 (j := 2) (by decide) (by decide) dX12_goOn_5 ?_
  refine x_iloadn C dX12_goOn_6 (x := p1) rfl ?_
  refine x_iadd C dX12_goOn_7 ?_
  refine x_bipush C dX12_goOn_8 (v := (60 : Int32)) (by decide) ?_
  refine x_idiv C dX12_goOn_10 (by decide) ?_
  refine x_aloadn C dX12_goOn_11 rfl ?_
  refine x_getR C fl_X12_7 cl_11 (1) nM0 kM0 fM0_1 dX12_goOn_12 ?_
  refine x_iconst C dX12_goOn_15 (v := (2 : Int32)) (by decide) ?_
  refine x_ialdj C nM1 kM1 (j := 2) (by decide) (by decide) dX12_goOn_16 ?_
  refine x_bipush C dX12_goOn_17 (v := (60 : Int32)) (by decide) ?_
  refine x_idiv C dX12_goOn_19 (by decide) ?_
  refine x_isub C dX12_goOn_20 ?_
  refine x_lti (fun v1 => ?_)
  refine x_istoren C dX12_goOn_21 (L' := [some (.ref ((wM b).2.2.2 + 0)), some (.int p1), some (.int v1), none, none]) (ltb rfl) rfl ?_
  refine x_aloadn C dX12_goOn_22 rfl ?_
  refine x_getR C fl_X12_7 cl_11 (1) nM0 kM0 fM0_1 dX12_goOn_23 ?_
  refine x_iconst C dX12_goOn_26 (v := (2 : Int32)) (by decide) ?_
  refine x_dup2 C dX12_goOn_27 rfl rfl ?_
  refine x_ialdj C nM1 kM1 (j := 2) (by decide) (by decide) dX12_goOn_28 ?_
  refine x_iloadn C dX12_goOn_29 (x := p1) rfl ?_
  refine x_iadd C dX12_goOn_30 ?_
  refine x_iastj C nM1 kM1 (j := 2) (by decide) (by decide) dX12_goOn_31 ?_
  refine x_ltM (fun M2 => ?_)
  refine x_iconst C dX12_goOn_32 (v := (0 : Int32)) (by decide) ?_
  refine x_istoren C dX12_goOn_33 (L' := [some (.ref ((wM b).2.2.2 + 0)), some (.int p1), some (.int v1), some (.int (0 : Int32)), none]) (ltb rfl) rfl ?_
  refine x_wk (L' := [some (.ref ((wM b).2.2.2 + 0)), none, some (.int v1), some (.int (0 : Int32)), none]) (And.intro rfl (And.intro rfl (And.intro rfl trivial))) (w_md_goOn_L34 C p1 (v1)  (fun M7 => ?_) FU ((0 : Int32)) M2)
  exact x_vret C dX12_goOn_84 rfl
def md_need (p1 : Int32) (M : Mem) : Option (Int32 × Mem) := lt1 (wr M 0 0 (0 : Int32)) fun M1 => (md_weightOf (p1) M1).bind fun v2 => (md_needOf (v2) M1).bind fun v3 => some (v3, M1)
set_option maxHeartbeats 4000000 in
set_option maxRecDepth 20000 in
theorem c_md_need {l : Launch} {g : GG} {b : Nat} (p1 : Int32) (M : Mem) : CT l g (wM b) (rmd 3) yX12_need cX12_need 2 (some .int) [.ref ((wM b).2.2.2 + 0), .int p1] M finM (md_need p1 M) := by
  refine CT.of rfl (Nat.le_of_ble_eq_true rfl) (catc rfl (catc rfl cat0)) (fun z C => ?_)
  have C : Cx z l g (wM b) (rmd 3) cX12_need 2 RX12 (some .int) := C
  refine x_wk (L' := [some (.ref ((wM b).2.2.2 + 0)), some (.int p1)]) (And.intro rfl (And.intro rfl trivial)) ?_
  rw [md_need]
  refine x_aloadn C dX12_need_0 rfl ?_
  refine x_iconst C dX12_need_1 (v := (0 : Int32)) (by decide) ?_
  refine x_putI C fl_X12_59 cl_11 fint_11_0 nM0 kM0 fM0_0 dX12_need_2 ?_
  refine x_ltM (fun M1 => ?_)
  refine x_aloadn C dX12_need_5 rfl ?_
  refine x_aloadn C dX12_need_6 rfl ?_
  refine x_iloadn C dX12_need_7 (x := p1) rfl ?_
  refine x_Vi (st := [.ref ((wM b).2.2.2 + 0)]) C (c_md_weightOf  (p1) M1) lk_X12_211 nM0 kM0 ⟨_, _, rfl⟩ rfl rfl (Nat.le_of_ble_eq_true rfl) (rmok_d (by decide) (by decide)) ⟨Nat.zero_le _, Nat.zero_le _⟩ dX12_need_8 (fun v2 => ?_)
  refine x_Vi (st := []) C (c_md_needOf  (v2) M1) lk_X12_214 nM0 kM0 ⟨_, _, rfl⟩ rfl rfl (Nat.le_of_ble_eq_true rfl) (rmok_d (by decide) (by decide)) ⟨Nat.zero_le _, Nat.zero_le _⟩ dX12_need_11 (fun v3 => ?_)
  exact x_iret C dX12_need_14 rfl
def md_cross_J171 (p1 : Int32) (p2 : Int32) (rec : Int32 → Mem → Option (Int32 × Mem)) (K : Mem → Option (Int32 × Mem)) (x3 : Int32) (x4 : Int32) (x5 : Int32) (M : Mem) : Option (Int32 × Mem) := chk (inb (((148 : Int32) + ((10 : Int32) * x5)) + x4) 648) (chk (inb (((148 : Int32) + ((10 : Int32) * x5)) + x4) 648) (lt1 (wr M 1 (((148 : Int32) + ((10 : Int32) * x5)) + x4).toNatClampNeg ((M 1 (((148 : Int32) + ((10 : Int32) * x5)) + x4).toNatClampNeg) + (1 : Int32))) fun M11 => rec ((x5 + (1 : Int32))) (M11)))
def md_cross_L130 (p1 : Int32) (p2 : Int32) (y3 : Int32) (y4 : Int32) (K : Mem → Option (Int32 × Mem)) : Nat → Int32 → Mem → Option (Int32 × Mem)
  | 0, _, _ => none
  | fu + 1, x5, M => (if x5 < (M 1 1) then (md_isOf (p1) (x5) M).bind fun v9 => (if v9 = 0 then md_cross_L130 p1 p2 y3 y4 K fu ((x5 + (1 : Int32))) (M) else (md_of (x5) ((0 : Int32)) M).bind fun v10 => (if v10 = 0 then md_cross_J171 p1 p2 (fun a5 aM => md_cross_L130 p1 p2 y3 y4 K fu a5 aM) K (y3) (y4) (x5) M else (md_of (x5) ((0 : Int32)) M).bind fun v12 => (if v12 = (3 : Int32) then md_cross_J171 p1 p2 (fun a5 aM => md_cross_L130 p1 p2 y3 y4 K fu a5 aM) K (y3) (y4) (x5) M else md_cross_L130 p1 p2 y3 y4 K fu ((x5 + (1 : Int32))) (M)))) else K (M))
def md_cross_L86 (p1 : Int32) (p2 : Int32) (y3 : Int32) (K : Mem → Option (Int32 × Mem)) : Nat → Int32 → Mem → Option (Int32 × Mem)
  | 0, _, _ => none
  | fu + 1, x4, M => (if x4 < (M 1 1) then (md_isOf (p2) (x4) M).bind fun v7 => (if v7 = 0 then md_cross_L86 p1 p2 y3 K fu ((x4 + (1 : Int32))) (M) else chk (inb (((38 : Int32) + ((5 : Int32) * x4)) + (4 : Int32)) 648) (chk (inb (((38 : Int32) + ((5 : Int32) * x4)) + (4 : Int32)) 648) (lt1 (wr M 1 (((38 : Int32) + ((5 : Int32) * x4)) + (4 : Int32)).toNatClampNeg ((M 1 (((38 : Int32) + ((5 : Int32) * x4)) + (4 : Int32)).toNatClampNeg) + (1 : Int32))) fun M8 => md_cross_L130 p1 p2 (y3) (x4) (fun M14 => md_cross_L86 p1 p2 y3 K fu ((x4 + (1 : Int32))) (M14)) FU ((0 : Int32)) M8))) else K (M))
def md_cross_J27 (p1 : Int32) (p2 : Int32) (s0 : Int32) (M : Mem) : Option (Int32 × Mem) := lt1 (wr M 0 0 s0) fun M3 => (if 0 < (M3 0 0) then some ((0 : Int32), M3) else lt1 (wr M3 1 4 ((M3 1 4) ^^^ p1)) fun M4 => lt1 (wr M4 1 3 ((1 : Int32) - (M4 1 3))) fun M5 => lt1 (wr M5 1 10 ((M5 1 10) + (1 : Int32))) fun M6 => md_cross_L86 p1 p2 ((M3 0 17)) (fun M16 => (md_goOn ((M3 0 17)) M16).bind fun M17 => some ((M3 0 17), M17)) FU ((0 : Int32)) M6)
def md_cross (p1 : Int32) (p2 : Int32) (M : Mem) : Option (Int32 × Mem) := bnd2 (md_mayCross ((M 1 4)) ((M 1 3)) (p1) (p2) M) fun v2 M1 => (if v2 = 0 then md_cross_J27 p1 p2 ((1 : Int32)) M1 else md_cross_J27 p1 p2 ((0 : Int32)) M1)
set_option maxHeartbeats 4000000 in
set_option maxRecDepth 20000 in
theorem w_md_cross_J171 {z : ZT} {l : Launch} {g : GG} {b : Nat} (C : Cx z l g (wM b) (rmd 5) cX12_cross 6 RX12 (some .int)) (p1 : Int32) (p2 : Int32) (x3 : Int32) (x4 : Int32) {rec : Int32 → Mem → Option (Int32 × Mem)} (hrec : ∀ (u5 : Int32) (M : Mem) , XG z g (wM b) 6 (ZQ z g (wM b) finM) 0 0 130 [some (.ref ((wM b).2.2.2 + 0)), some (.int p1), some (.int p2), some (.int x3), some (.int x4), some (.int u5)] [] M (rec u5 M)) {K : Mem → Option (Int32 × Mem)} (hK : ∀ (M : Mem) , XG z g (wM b) 6 (ZQ z g (wM b) finM) 0 0 198 [some (.ref ((wM b).2.2.2 + 0)), some (.int p1), some (.int p2), some (.int x3), some (.int x4), none] [] M (K  M)) (x5 : Int32) (M : Mem) : XG z g (wM b) 6 (ZQ z g (wM b) finM) 0 0 171 [some (.ref ((wM b).2.2.2 + 0)), some (.int p1), some (.int p2), some (.int x3), some (.int x4), some (.int x5)] [] M (md_cross_J171 p1 p2 rec K x3 x4 x5 M) := by
  rw [md_cross_J171]
  refine x_aloadn C dX12_cross_171 rfl ?_
  refine x_getR C fl_X12_7 cl_11 (1) nM0 kM0 fM0_1 dX12_cross_172 ?_
  refine x_sipush C dX12_cross_175 (v := (148 : Int32)) (by decide) ?_
  refine x_bipush C dX12_cross_178 (v := (10 : Int32)) (by decide) ?_
  refine x_iload C dX12_cross_180 (x := x5) rfl ?_
  refine x_imul C dX12_cross_182 ?_
  refine x_iadd C dX12_cross_183 ?_
  refine x_iload C dX12_cross_184 (x := x4) rfl ?_
  refine x_iadd C dX12_cross_186 ?_
  refine x_dup2 C dX12_cross_187 rfl rfl ?_
  refine x_iald C nM1 kM1 dX12_cross_188 ?_
  refine x_iconst C dX12_cross_189 (v := (1 : Int32)) (by decide) ?_
  refine x_iadd C dX12_cross_190 ?_
  refine x_iast C nM1 kM1 dX12_cross_191 ?_
  refine x_ltM (fun M11 => ?_)
  refine x_iinc C dX12_cross_192 (v := (x5 + (1 : Int32))) rfl rfl (L' := [some (.ref ((wM b).2.2.2 + 0)), some (.int p1), some (.int p2), some (.int x3), some (.int x4), some (.int (x5 + (1 : Int32)))]) rfl ?_
  refine x_goto C dX12_cross_195 (tgt := 130) (by decide) ?_
  exact x_wk (L' := [some (.ref ((wM b).2.2.2 + 0)), some (.int p1), some (.int p2), some (.int x3), some (.int x4), some (.int (x5 + (1 : Int32)))]) (And.intro rfl (And.intro rfl (And.intro rfl (And.intro rfl (And.intro rfl (And.intro rfl trivial)))))) (hrec ((x5 + (1 : Int32))) (M11))
set_option maxHeartbeats 4000000 in
set_option maxRecDepth 20000 in
theorem w_md_cross_L130 {z : ZT} {l : Launch} {g : GG} {b : Nat} (C : Cx z l g (wM b) (rmd 5) cX12_cross 6 RX12 (some .int)) (p1 : Int32) (p2 : Int32) (y3 : Int32) (y4 : Int32) {K : Mem → Option (Int32 × Mem)} (hK : ∀ (M : Mem) , XG z g (wM b) 6 (ZQ z g (wM b) finM) 0 0 198 [some (.ref ((wM b).2.2.2 + 0)), some (.int p1), some (.int p2), some (.int y3), some (.int y4), none] [] M (K M)) : ∀ (fu : Nat) (x5 : Int32) (M : Mem), XG z g (wM b) 6 (ZQ z g (wM b) finM) 0 0 130 [some (.ref ((wM b).2.2.2 + 0)), some (.int p1), some (.int p2), some (.int y3), some (.int y4), some (.int x5)] [] M (md_cross_L130 p1 p2 y3 y4 K fu x5 M) := by
  intro fu
  induction fu with
  | zero => intro x5 M; exact x_none
  | succ fu ih =>
    intro x5 M
    rw [md_cross_L130]
    refine x_iload C dX12_cross_130 (x := x5) rfl ?_
    refine x_aloadn C dX12_cross_132 rfl ?_
    refine x_getR C fl_X12_7 cl_11 (1) nM0 kM0 fM0_1 dX12_cross_133 ?_
    refine x_iconst C dX12_cross_136 (v := (1 : Int32)) (by decide) ?_
    refine x_ialdj C nM1 kM1 (j := 1) (by decide) (by decide) dX12_cross_137 ?_
    refine x_icmpge C dX12_cross_138 (tgt := 198) (by decide) (fun _h => ?_) (fun _h => ?_)
    · exact x_wk (L' := [some (.ref ((wM b).2.2.2 + 0)), some (.int p1), some (.int p2), some (.int y3), some (.int y4), none]) (And.intro rfl (And.intro rfl (And.intro rfl (And.intro rfl (And.intro rfl trivial))))) (hK (M))
    · refine x_iloadn C dX12_cross_141 (x := p1) rfl ?_
      refine x_iload C dX12_cross_142 (x := x5) rfl ?_
      refine x_Si (st := []) C (c_md_isOf  (p1) (x5) M) lk_X12_70 rfl rfl (Nat.le_of_ble_eq_true rfl) (rmok_d (by decide) (by decide)) ⟨Nat.zero_le _, Nat.zero_le _⟩ dX12_cross_144 (fun v9 => ?_)
      refine x_ifeq C dX12_cross_147 (tgt := 192) (by decide) (fun _h => ?_) (fun _h => ?_)
      · refine x_iinc C dX12_cross_192 (v := (x5 + (1 : Int32))) rfl rfl (L' := [some (.ref ((wM b).2.2.2 + 0)), some (.int p1), some (.int p2), some (.int y3), some (.int y4), some (.int (x5 + (1 : Int32)))]) rfl ?_
        refine x_goto C dX12_cross_195 (tgt := 130) (by decide) ?_
        exact x_wk (L' := [some (.ref ((wM b).2.2.2 + 0)), some (.int p1), some (.int p2), some (.int y3), some (.int y4), some (.int (x5 + (1 : Int32)))]) (And.intro rfl (And.intro rfl (And.intro rfl (And.intro rfl (And.intro rfl (And.intro rfl trivial)))))) (ih ((x5 + (1 : Int32))) (M))
      · refine x_aloadn C dX12_cross_150 rfl ?_
        refine x_iload C dX12_cross_151 (x := x5) rfl ?_
        refine x_iconst C dX12_cross_153 (v := (0 : Int32)) (by decide) ?_
        refine x_Vi (st := []) C (c_md_of  (x5) ((0 : Int32)) M) lk_X12_66 nM0 kM0 ⟨_, _, rfl⟩ rfl rfl (Nat.le_of_ble_eq_true rfl) (rmok_d (by decide) (by decide)) ⟨Nat.zero_le _, Nat.zero_le _⟩ dX12_cross_154 (fun v10 => ?_)
        refine x_ifeq C dX12_cross_157 (tgt := 171) (by decide) (fun _h => ?_) (fun _h => ?_)
        · exact x_wk (L' := [some (.ref ((wM b).2.2.2 + 0)), some (.int p1), some (.int p2), some (.int y3), some (.int y4), some (.int x5)]) (And.intro rfl (And.intro rfl (And.intro rfl (And.intro rfl (And.intro rfl (And.intro rfl trivial)))))) (w_md_cross_J171 C p1 p2 (y3) (y4) ih hK (x5)  M)
        · refine x_aloadn C dX12_cross_160 rfl ?_
          refine x_iload C dX12_cross_161 (x := x5) rfl ?_
          refine x_iconst C dX12_cross_163 (v := (0 : Int32)) (by decide) ?_
          refine x_Vi (st := []) C (c_md_of  (x5) ((0 : Int32)) M) lk_X12_66 nM0 kM0 ⟨_, _, rfl⟩ rfl rfl (Nat.le_of_ble_eq_true rfl) (rmok_d (by decide) (by decide)) ⟨Nat.zero_le _, Nat.zero_le _⟩ dX12_cross_164 (fun v12 => ?_)
          refine x_iconst C dX12_cross_167 (v := (3 : Int32)) (by decide) ?_
          refine x_icmpne C dX12_cross_168 (tgt := 192) (by decide) (fun _h => ?_) (fun _h => ?_)
          · refine x_iinc C dX12_cross_192 (v := (x5 + (1 : Int32))) rfl rfl (L' := [some (.ref ((wM b).2.2.2 + 0)), some (.int p1), some (.int p2), some (.int y3), some (.int y4), some (.int (x5 + (1 : Int32)))]) rfl ?_
            refine x_goto C dX12_cross_195 (tgt := 130) (by decide) ?_
            exact x_wk (L' := [some (.ref ((wM b).2.2.2 + 0)), some (.int p1), some (.int p2), some (.int y3), some (.int y4), some (.int (x5 + (1 : Int32)))]) (And.intro rfl (And.intro rfl (And.intro rfl (And.intro rfl (And.intro rfl (And.intro rfl trivial)))))) (ih ((x5 + (1 : Int32))) (M))
          · exact x_wk (L' := [some (.ref ((wM b).2.2.2 + 0)), some (.int p1), some (.int p2), some (.int y3), some (.int y4), some (.int x5)]) (And.intro rfl (And.intro rfl (And.intro rfl (And.intro rfl (And.intro rfl (And.intro rfl trivial)))))) (w_md_cross_J171 C p1 p2 (y3) (y4) ih hK (x5)  M)
set_option maxHeartbeats 4000000 in
set_option maxRecDepth 20000 in
theorem w_md_cross_L86 {z : ZT} {l : Launch} {g : GG} {b : Nat} (C : Cx z l g (wM b) (rmd 5) cX12_cross 6 RX12 (some .int)) (p1 : Int32) (p2 : Int32) (y3 : Int32) {K : Mem → Option (Int32 × Mem)} (hK : ∀ (M : Mem) , XG z g (wM b) 6 (ZQ z g (wM b) finM) 0 0 204 [some (.ref ((wM b).2.2.2 + 0)), none, none, some (.int y3), none, none] [] M (K M)) : ∀ (fu : Nat) (x4 : Int32) (M : Mem), XG z g (wM b) 6 (ZQ z g (wM b) finM) 0 0 86 [some (.ref ((wM b).2.2.2 + 0)), some (.int p1), some (.int p2), some (.int y3), some (.int x4), none] [] M (md_cross_L86 p1 p2 y3 K fu x4 M) := by
  intro fu
  induction fu with
  | zero => intro x4 M; exact x_none
  | succ fu ih =>
    intro x4 M
    rw [md_cross_L86]
    refine x_iload C dX12_cross_86 (x := x4) rfl ?_
    refine x_aloadn C dX12_cross_88 rfl ?_
    refine x_getR C fl_X12_7 cl_11 (1) nM0 kM0 fM0_1 dX12_cross_89 ?_
    refine x_iconst C dX12_cross_92 (v := (1 : Int32)) (by decide) ?_
    refine x_ialdj C nM1 kM1 (j := 1) (by decide) (by decide) dX12_cross_93 ?_
    refine x_icmpge C dX12_cross_94 (tgt := 204) (by decide) (fun _h => ?_) (fun _h => ?_)
    · exact x_wk (L' := [some (.ref ((wM b).2.2.2 + 0)), none, none, some (.int y3), none, none]) (And.intro rfl (And.intro rfl trivial)) (hK (M))
    · refine x_iloadn C dX12_cross_97 (x := p2) rfl ?_
      refine x_iload C dX12_cross_98 (x := x4) rfl ?_
      refine x_Si (st := []) C (c_md_isOf  (p2) (x4) M) lk_X12_70 rfl rfl (Nat.le_of_ble_eq_true rfl) (rmok_d (by decide) (by decide)) ⟨Nat.zero_le _, Nat.zero_le _⟩ dX12_cross_100 (fun v7 => ?_)
      refine x_ifne C dX12_cross_103 (tgt := 109) (by decide) (fun _h => ?_) (fun _h => ?_)
      · refine x_aloadn C dX12_cross_109 rfl ?_
        refine x_getR C fl_X12_7 cl_11 (1) nM0 kM0 fM0_1 dX12_cross_110 ?_
        refine x_bipush C dX12_cross_113 (v := (38 : Int32)) (by decide) ?_
        refine x_iconst C dX12_cross_115 (v := (5 : Int32)) (by decide) ?_
        refine x_iload C dX12_cross_116 (x := x4) rfl ?_
        refine x_imul C dX12_cross_118 ?_
        refine x_iadd C dX12_cross_119 ?_
        refine x_iconst C dX12_cross_120 (v := (4 : Int32)) (by decide) ?_
        refine x_iadd C dX12_cross_121 ?_
        refine x_dup2 C dX12_cross_122 rfl rfl ?_
        refine x_iald C nM1 kM1 dX12_cross_123 ?_
        refine x_iconst C dX12_cross_124 (v := (1 : Int32)) (by decide) ?_
        refine x_iadd C dX12_cross_125 ?_
        refine x_iast C nM1 kM1 dX12_cross_126 ?_
        refine x_ltM (fun M8 => ?_)
        refine x_iconst C dX12_cross_127 (v := (0 : Int32)) (by decide) ?_
        refine x_istore C dX12_cross_128 (L' := [some (.ref ((wM b).2.2.2 + 0)), some (.int p1), some (.int p2), some (.int y3), some (.int x4), some (.int (0 : Int32))]) (ltb rfl) rfl ?_
        refine x_wk (L' := [some (.ref ((wM b).2.2.2 + 0)), some (.int p1), some (.int p2), some (.int y3), some (.int x4), some (.int (0 : Int32))]) (And.intro rfl (And.intro rfl (And.intro rfl (And.intro rfl (And.intro rfl (And.intro rfl trivial)))))) (w_md_cross_L130 C p1 p2 (y3) (x4)  (fun M14 => ?_) FU ((0 : Int32)) M8)
        refine x_iinc C dX12_cross_198 (v := (x4 + (1 : Int32))) rfl rfl (L' := [some (.ref ((wM b).2.2.2 + 0)), some (.int p1), some (.int p2), some (.int y3), some (.int (x4 + (1 : Int32))), none]) rfl ?_
        refine x_goto C dX12_cross_201 (tgt := 86) (by decide) ?_
        exact x_wk (L' := [some (.ref ((wM b).2.2.2 + 0)), some (.int p1), some (.int p2), some (.int y3), some (.int (x4 + (1 : Int32))), none]) (And.intro rfl (And.intro rfl (And.intro rfl (And.intro rfl (And.intro rfl trivial))))) (ih ((x4 + (1 : Int32))) (M14))
      · refine x_goto C dX12_cross_106 (tgt := 198) (by decide) ?_
        refine x_iinc C dX12_cross_198 (v := (x4 + (1 : Int32))) rfl rfl (L' := [some (.ref ((wM b).2.2.2 + 0)), some (.int p1), some (.int p2), some (.int y3), some (.int (x4 + (1 : Int32))), none]) rfl ?_
        refine x_goto C dX12_cross_201 (tgt := 86) (by decide) ?_
        exact x_wk (L' := [some (.ref ((wM b).2.2.2 + 0)), some (.int p1), some (.int p2), some (.int y3), some (.int (x4 + (1 : Int32))), none]) (And.intro rfl (And.intro rfl (And.intro rfl (And.intro rfl (And.intro rfl trivial))))) (ih ((x4 + (1 : Int32))) (M))
set_option maxHeartbeats 4000000 in
set_option maxRecDepth 20000 in
theorem w_md_cross_J27 {z : ZT} {l : Launch} {g : GG} {b : Nat} (C : Cx z l g (wM b) (rmd 5) cX12_cross 6 RX12 (some .int)) (p1 : Int32) (p2 : Int32)  (s0 : Int32) (M : Mem) : XG z g (wM b) 6 (ZQ z g (wM b) finM) 0 0 27 [some (.ref ((wM b).2.2.2 + 0)), some (.int p1), some (.int p2), none, none, none] [.int s0, .ref ((wM b).2.2.2 + 0)] M (md_cross_J27 p1 p2 s0 M) := by
  rw [md_cross_J27]
  refine x_putI C fl_X12_59 cl_11 fint_11_0 nM0 kM0 fM0_0 dX12_cross_27 ?_
  refine x_ltM (fun M3 => ?_)
  refine x_aloadn C dX12_cross_30 rfl ?_
  refine x_getI C fl_X12_59 cl_11 nM0 kM0 fM0_0 dX12_cross_31 ?_
  refine x_ifle C dX12_cross_34 (tgt := 39) (by decide) (fun _h => ?_) (fun _h => ?_)
  · refine x_aloadn C dX12_cross_39 rfl ?_
    refine x_getI C fl_X12_226 cl_11 nM0 kM0 fM0_17 dX12_cross_40 ?_
    refine x_istoren C dX12_cross_43 (L' := [some (.ref ((wM b).2.2.2 + 0)), some (.int p1), some (.int p2), some (.int (M3 0 17)), none, none]) (ltb rfl) rfl ?_
    refine x_aloadn C dX12_cross_44 rfl ?_
    refine x_getR C fl_X12_7 cl_11 (1) nM0 kM0 fM0_1 dX12_cross_45 ?_
    refine x_iconst C dX12_cross_48 (v := (4 : Int32)) (by decide) ?_
    refine x_aloadn C dX12_cross_49 rfl ?_
    refine x_getR C fl_X12_7 cl_11 (1) nM0 kM0 fM0_1 dX12_cross_50 ?_
    refine x_iconst C dX12_cross_53 (v := (4 : Int32)) (by decide) ?_
    refine x_ialdj C nM1 kM1 (j := 4) (by decide) (by decide) dX12_cross_54 ?_
    refine x_iloadn C dX12_cross_55 (x := p1) rfl ?_
    refine x_ixor C dX12_cross_56 ?_
    refine x_iastj C nM1 kM1 (j := 4) (by decide) (by decide) dX12_cross_57 ?_
    refine x_ltM (fun M4 => ?_)
    refine x_aloadn C dX12_cross_58 rfl ?_
    refine x_getR C fl_X12_7 cl_11 (1) nM0 kM0 fM0_1 dX12_cross_59 ?_
    refine x_iconst C dX12_cross_62 (v := (3 : Int32)) (by decide) ?_
    refine x_iconst C dX12_cross_63 (v := (1 : Int32)) (by decide) ?_
    refine x_aloadn C dX12_cross_64 rfl ?_
    refine x_getR C fl_X12_7 cl_11 (1) nM0 kM0 fM0_1 dX12_cross_65 ?_
    refine x_iconst C dX12_cross_68 (v := (3 : Int32)) (by decide) ?_
    refine x_ialdj C nM1 kM1 (j := 3) (by decide) (by decide) dX12_cross_69 ?_
    refine x_isub C dX12_cross_70 ?_
    refine x_iastj C nM1 kM1 (j := 3) (by decide) (by decide) dX12_cross_71 ?_
    refine x_ltM (fun M5 => ?_)
    refine x_aloadn C dX12_cross_72 rfl ?_
    refine x_getR C fl_X12_7 cl_11 (1) nM0 kM0 fM0_1 dX12_cross_73 ?_
    refine x_bipush C dX12_cross_76 (v := (10 : Int32)) (by decide) ?_
    refine x_dup2 C dX12_cross_78 rfl rfl ?_
    refine x_ialdj C nM1 kM1 (j := 10) (by decide) (by decide) dX12_cross_79 ?_
    refine x_iconst C dX12_cross_80 (v := (1 : Int32)) (by decide) ?_
    refine x_iadd C dX12_cross_81 ?_
    refine x_iastj C nM1 kM1 (j := 10) (by decide) (by decide) dX12_cross_82 ?_
    refine x_ltM (fun M6 => ?_)
    refine x_iconst C dX12_cross_83 (v := (0 : Int32)) (by decide) ?_
    refine x_istore C dX12_cross_84 (L' := [some (.ref ((wM b).2.2.2 + 0)), some (.int p1), some (.int p2), some (.int (M3 0 17)), some (.int (0 : Int32)), none]) (ltb rfl) rfl ?_
    refine x_wk (L' := [some (.ref ((wM b).2.2.2 + 0)), some (.int p1), some (.int p2), some (.int (M3 0 17)), some (.int (0 : Int32)), none]) (And.intro rfl (And.intro rfl (And.intro rfl (And.intro rfl (And.intro rfl trivial))))) (w_md_cross_L86 C p1 p2 ((M3 0 17))  (fun M16 => ?_) FU ((0 : Int32)) M6)
    refine x_aloadn C dX12_cross_204 rfl ?_
    refine x_iloadn C dX12_cross_205 (x := (M3 0 17)) rfl ?_
    refine x_Vv (st := []) C (c_md_goOn  ((M3 0 17)) M16) lk_X12_236 nM0 kM0 ⟨_, _, rfl⟩ rfl rfl (Nat.le_of_ble_eq_true rfl) (rmok_d (by decide) (by decide)) ⟨Nat.zero_le _, Nat.zero_le _⟩ dX12_cross_206 (fun M17 => ?_)
    refine x_iloadn C dX12_cross_209 (x := (M3 0 17)) rfl ?_
    exact x_iret C dX12_cross_210 rfl
  · refine x_iconst C dX12_cross_37 (v := (0 : Int32)) (by decide) ?_
    exact x_iret C dX12_cross_38 rfl
set_option maxHeartbeats 4000000 in
set_option maxRecDepth 20000 in
theorem c_md_cross {l : Launch} {g : GG} {b : Nat} (p1 : Int32) (p2 : Int32) (M : Mem) : CT l g (wM b) (rmd 5) yX12_cross cX12_cross 6 (some .int) [.ref ((wM b).2.2.2 + 0), .int p1, .int p2] M finM (md_cross p1 p2 M) := by
  refine CT.of rfl (Nat.le_of_ble_eq_true rfl) (catc rfl (catc rfl (catc rfl cat0))) (fun z C => ?_)
  have C : Cx z l g (wM b) (rmd 5) cX12_cross 6 RX12 (some .int) := C
  refine x_wk (L' := [some (.ref ((wM b).2.2.2 + 0)), some (.int p1), some (.int p2), none, none, none]) (And.intro rfl (And.intro rfl (And.intro rfl trivial))) ?_
  rw [md_cross]
  refine x_aloadn C dX12_cross_0 rfl ?_
  refine x_aloadn C dX12_cross_1 rfl ?_
  refine x_aloadn C dX12_cross_2 rfl ?_
  refine x_getR C fl_X12_7 cl_11 (1) nM0 kM0 fM0_1 dX12_cross_3 ?_
  refine x_iconst C dX12_cross_6 (v := (4 : Int32)) (by decide) ?_
  refine x_ialdj C nM1 kM1 (j := 4) (by decide) (by decide) dX12_cross_7 ?_
  refine x_aloadn C dX12_cross_8 rfl ?_
  refine x_getR C fl_X12_7 cl_11 (1) nM0 kM0 fM0_1 dX12_cross_9 ?_
  refine x_iconst C dX12_cross_12 (v := (3 : Int32)) (by decide) ?_
  refine x_ialdj C nM1 kM1 (j := 3) (by decide) (by decide) dX12_cross_13 ?_
  refine x_iloadn C dX12_cross_14 (x := p1) rfl ?_
  refine x_iloadn C dX12_cross_15 (x := p2) rfl ?_
  refine x_Vm (st := [.ref ((wM b).2.2.2 + 0)]) C (c_md_mayCross  ((M 1 4)) ((M 1 3)) (p1) (p2) M) lk_X12_232 nM0 kM0 ⟨_, _, rfl⟩ rfl rfl (Nat.le_of_ble_eq_true rfl) (rmok_d (by decide) (by decide)) ⟨Nat.zero_le _, Nat.zero_le _⟩ dX12_cross_16 (fun v2 M1 => ?_)
  refine x_ifne C dX12_cross_19 (tgt := 26) (by decide) (fun _h => ?_) (fun _h => ?_)
  · refine x_iconst C dX12_cross_26 (v := (0 : Int32)) (by decide) ?_
    exact x_wk (L' := [some (.ref ((wM b).2.2.2 + 0)), some (.int p1), some (.int p2), none, none, none]) (And.intro rfl (And.intro rfl (And.intro rfl trivial))) (w_md_cross_J27 C p1 p2   ((0 : Int32)) M1)
  · refine x_iconst C dX12_cross_22 (v := (1 : Int32)) (by decide) ?_
    refine x_goto C dX12_cross_23 (tgt := 27) (by decide) ?_
    exact x_wk (L' := [some (.ref ((wM b).2.2.2 + 0)), some (.int p1), some (.int p2), none, none, none]) (And.intro rfl (And.intro rfl (And.intro rfl trivial))) (w_md_cross_J27 C p1 p2   ((1 : Int32)) M1)
def md_swim_J32 (p1 : Int32) (s0 : Int32) (M : Mem) : Option (Int32 × Mem) := lt1 (wr M 0 0 s0) fun M3 => (if 0 < (M3 0 0) then some ((0 : Int32), M3) else (md_stream M3).bind fun v4 => lt1 (wr M3 1 4 ((M3 1 4) ^^^ ((1 : Int32) <<< (p1 &&& 31)))) fun M5 => lt1 (wr M5 1 11 ((M5 1 11) + (1 : Int32))) fun M6 => chk (inb (((38 : Int32) + ((5 : Int32) * p1)) + (4 : Int32)) 648) (chk (inb (((38 : Int32) + ((5 : Int32) * p1)) + (4 : Int32)) 648) (lt1 (wr M6 1 (((38 : Int32) + ((5 : Int32) * p1)) + (4 : Int32)).toNatClampNeg ((M6 1 (((38 : Int32) + ((5 : Int32) * p1)) + (4 : Int32)).toNatClampNeg) + (2 : Int32))) fun M7 => (md_goOn (((M3 1 7) + v4)) M7).bind fun M8 => some (((M3 1 7) + v4), M8))))
def md_swim (p1 : Int32) (M : Mem) : Option (Int32 × Mem) := (md_isBeing (p1) M).bind fun v1 => (if v1 = 0 then md_swim_J32 p1 ((1 : Int32)) M else (md_maySwim ((M 1 4)) (p1) M).bind fun v2 => (if v2 = 0 then md_swim_J32 p1 ((2 : Int32)) M else md_swim_J32 p1 ((0 : Int32)) M))
set_option maxHeartbeats 4000000 in
set_option maxRecDepth 20000 in
theorem w_md_swim_J32 {z : ZT} {l : Launch} {g : GG} {b : Nat} (C : Cx z l g (wM b) (rmd 4) cX12_swim 3 RX12 (some .int)) (p1 : Int32)  (s0 : Int32) (M : Mem) : XG z g (wM b) 3 (ZQ z g (wM b) finM) 0 0 32 [some (.ref ((wM b).2.2.2 + 0)), some (.int p1), none] [.int s0, .ref ((wM b).2.2.2 + 0)] M (md_swim_J32 p1 s0 M) := by
  rw [md_swim_J32]
  refine x_putI C fl_X12_59 cl_11 fint_11_0 nM0 kM0 fM0_0 dX12_swim_32 ?_
  refine x_ltM (fun M3 => ?_)
  refine x_aloadn C dX12_swim_35 rfl ?_
  refine x_getI C fl_X12_59 cl_11 nM0 kM0 fM0_0 dX12_swim_36 ?_
  refine x_ifle C dX12_swim_39 (tgt := 44) (by decide) (fun _h => ?_) (fun _h => ?_)
  · refine x_aloadn C dX12_swim_44 rfl ?_
    refine x_getR C fl_X12_7 cl_11 (1) nM0 kM0 fM0_1 dX12_swim_45 ?_
    refine x_bipush C dX12_swim_48 (v := (7 : Int32)) (by decide) ?_
    refine x_ialdj C nM1 kM1 (j := 7) (by decide) (by decide) dX12_swim_50 ?_
    refine x_aloadn C dX12_swim_51 rfl ?_
    refine x_Vi (st := [.int (M3 1 7)]) C (c_md_stream   M3) lk_X12_78 nM0 kM0 ⟨_, _, rfl⟩ rfl rfl (Nat.le_of_ble_eq_true rfl) (rmok_d (by decide) (by decide)) ⟨Nat.zero_le _, Nat.zero_le _⟩ dX12_swim_52 (fun v4 => ?_)
    refine x_iadd C dX12_swim_55 ?_
    refine x_istoren C dX12_swim_56 (L' := [some (.ref ((wM b).2.2.2 + 0)), some (.int p1), some (.int ((M3 1 7) + v4))]) (ltb rfl) rfl ?_
    refine x_aloadn C dX12_swim_57 rfl ?_
    refine x_getR C fl_X12_7 cl_11 (1) nM0 kM0 fM0_1 dX12_swim_58 ?_
    refine x_iconst C dX12_swim_61 (v := (4 : Int32)) (by decide) ?_
    refine x_aloadn C dX12_swim_62 rfl ?_
    refine x_getR C fl_X12_7 cl_11 (1) nM0 kM0 fM0_1 dX12_swim_63 ?_
    refine x_iconst C dX12_swim_66 (v := (4 : Int32)) (by decide) ?_
    refine x_ialdj C nM1 kM1 (j := 4) (by decide) (by decide) dX12_swim_67 ?_
    refine x_iconst C dX12_swim_68 (v := (1 : Int32)) (by decide) ?_
    refine x_iloadn C dX12_swim_69 (x := p1) rfl ?_
    refine x_ishl C dX12_swim_70 ?_
    refine x_ixor C dX12_swim_71 ?_
    refine x_iastj C nM1 kM1 (j := 4) (by decide) (by decide) dX12_swim_72 ?_
    refine x_ltM (fun M5 => ?_)
    refine x_aloadn C dX12_swim_73 rfl ?_
    refine x_getR C fl_X12_7 cl_11 (1) nM0 kM0 fM0_1 dX12_swim_74 ?_
    refine x_bipush C dX12_swim_77 (v := (11 : Int32)) (by decide) ?_
    refine x_dup2 C dX12_swim_79 rfl rfl ?_
    refine x_ialdj C nM1 kM1 (j := 11) (by decide) (by decide) dX12_swim_80 ?_
    refine x_iconst C dX12_swim_81 (v := (1 : Int32)) (by decide) ?_
    refine x_iadd C dX12_swim_82 ?_
    refine x_iastj C nM1 kM1 (j := 11) (by decide) (by decide) dX12_swim_83 ?_
    refine x_ltM (fun M6 => ?_)
    refine x_aloadn C dX12_swim_84 rfl ?_
    refine x_getR C fl_X12_7 cl_11 (1) nM0 kM0 fM0_1 dX12_swim_85 ?_
    refine x_bipush C dX12_swim_88 (v := (38 : Int32)) (by decide) ?_
    refine x_iconst C dX12_swim_90 (v := (5 : Int32)) (by decide) ?_
    refine x_iloadn C dX12_swim_91 (x := p1) rfl ?_
    refine x_imul C dX12_swim_92 ?_
    refine x_iadd C dX12_swim_93 ?_
    refine x_iconst C dX12_swim_94 (v := (4 : Int32)) (by decide) ?_
    refine x_iadd C dX12_swim_95 ?_
    refine x_dup2 C dX12_swim_96 rfl rfl ?_
    refine x_iald C nM1 kM1 dX12_swim_97 ?_
    refine x_iconst C dX12_swim_98 (v := (2 : Int32)) (by decide) ?_
    refine x_iadd C dX12_swim_99 ?_
    refine x_iast C nM1 kM1 dX12_swim_100 ?_
    refine x_ltM (fun M7 => ?_)
    refine x_aloadn C dX12_swim_101 rfl ?_
    refine x_iloadn C dX12_swim_102 (x := ((M3 1 7) + v4)) rfl ?_
    refine x_Vv (st := []) C (c_md_goOn  (((M3 1 7) + v4)) M7) lk_X12_236 nM0 kM0 ⟨_, _, rfl⟩ rfl rfl (Nat.le_of_ble_eq_true rfl) (rmok_d (by decide) (by decide)) ⟨Nat.zero_le _, Nat.zero_le _⟩ dX12_swim_103 (fun M8 => ?_)
    refine x_iloadn C dX12_swim_106 (x := ((M3 1 7) + v4)) rfl ?_
    exact x_iret C dX12_swim_107 rfl
  · refine x_iconst C dX12_swim_42 (v := (0 : Int32)) (by decide) ?_
    exact x_iret C dX12_swim_43 rfl
set_option maxHeartbeats 4000000 in
set_option maxRecDepth 20000 in
theorem c_md_swim {l : Launch} {g : GG} {b : Nat} (p1 : Int32) (M : Mem) : CT l g (wM b) (rmd 4) yX12_swim cX12_swim 3 (some .int) [.ref ((wM b).2.2.2 + 0), .int p1] M finM (md_swim p1 M) := by
  refine CT.of rfl (Nat.le_of_ble_eq_true rfl) (catc rfl (catc rfl cat0)) (fun z C => ?_)
  have C : Cx z l g (wM b) (rmd 4) cX12_swim 3 RX12 (some .int) := C
  refine x_wk (L' := [some (.ref ((wM b).2.2.2 + 0)), some (.int p1), none]) (And.intro rfl (And.intro rfl trivial)) ?_
  rw [md_swim]
  refine x_aloadn C dX12_swim_0 rfl ?_
  refine x_aloadn C dX12_swim_1 rfl ?_
  refine x_iloadn C dX12_swim_2 (x := p1) rfl ?_
  refine x_Vi (st := [.ref ((wM b).2.2.2 + 0)]) C (c_md_isBeing  (p1) M) lk_X12_239 nM0 kM0 ⟨_, _, rfl⟩ rfl rfl (Nat.le_of_ble_eq_true rfl) (rmok_d (by decide) (by decide)) ⟨Nat.zero_le _, Nat.zero_le _⟩ dX12_swim_3 (fun v1 => ?_)
  refine x_ifne C dX12_swim_6 (tgt := 13) (by decide) (fun _h => ?_) (fun _h => ?_)
  · refine x_aloadn C dX12_swim_13 rfl ?_
    refine x_aloadn C dX12_swim_14 rfl ?_
    refine x_getR C fl_X12_7 cl_11 (1) nM0 kM0 fM0_1 dX12_swim_15 ?_
    refine x_iconst C dX12_swim_18 (v := (4 : Int32)) (by decide) ?_
    refine x_ialdj C nM1 kM1 (j := 4) (by decide) (by decide) dX12_swim_19 ?_
    refine x_iloadn C dX12_swim_20 (x := p1) rfl ?_
    refine x_Vi (st := [.ref ((wM b).2.2.2 + 0)]) C (c_md_maySwim  ((M 1 4)) (p1) M) lk_X12_242 nM0 kM0 ⟨_, _, rfl⟩ rfl rfl (Nat.le_of_ble_eq_true rfl) (rmok_d (by decide) (by decide)) ⟨Nat.zero_le _, Nat.zero_le _⟩ dX12_swim_21 (fun v2 => ?_)
    refine x_ifne C dX12_swim_24 (tgt := 31) (by decide) (fun _h => ?_) (fun _h => ?_)
    · refine x_iconst C dX12_swim_31 (v := (0 : Int32)) (by decide) ?_
      exact x_wk (L' := [some (.ref ((wM b).2.2.2 + 0)), some (.int p1), none]) (And.intro rfl (And.intro rfl trivial)) (w_md_swim_J32 C p1   ((0 : Int32)) M)
    · refine x_iconst C dX12_swim_27 (v := (2 : Int32)) (by decide) ?_
      refine x_goto C dX12_swim_28 (tgt := 32) (by decide) ?_
      exact x_wk (L' := [some (.ref ((wM b).2.2.2 + 0)), some (.int p1), none]) (And.intro rfl (And.intro rfl trivial)) (w_md_swim_J32 C p1   ((2 : Int32)) M)
  · refine x_iconst C dX12_swim_9 (v := (1 : Int32)) (by decide) ?_
    refine x_goto C dX12_swim_10 (tgt := 32) (by decide) ?_
    exact x_wk (L' := [some (.ref ((wM b).2.2.2 + 0)), some (.int p1), none]) (And.intro rfl (And.intro rfl trivial)) (w_md_swim_J32 C p1   ((1 : Int32)) M)
def md_rest_J17 (p1 : Int32) (s0 : Int32) (M : Mem) : Option (Int32 × Mem) := lt1 (wr M 0 0 s0) fun M2 => (if 0 < (M2 0 0) then some ((0 : Int32), M2) else (md_goOn (p1) M2).bind fun M3 => some ((M3 1 2), M3))
def md_rest (p1 : Int32) (M : Mem) : Option (Int32 × Mem) := (md_isIn (p1) ((1 : Int32)) ((600 : Int32)) M).bind fun v1 => (if v1 = 0 then md_rest_J17 p1 ((1 : Int32)) M else md_rest_J17 p1 ((0 : Int32)) M)
set_option maxHeartbeats 4000000 in
set_option maxRecDepth 20000 in
theorem w_md_rest_J17 {z : ZT} {l : Launch} {g : GG} {b : Nat} (C : Cx z l g (wM b) (rmd 3) cX12_rest 2 RX12 (some .int)) (p1 : Int32)  (s0 : Int32) (M : Mem) : XG z g (wM b) 2 (ZQ z g (wM b) finM) 0 0 17 [some (.ref ((wM b).2.2.2 + 0)), some (.int p1)] [.int s0, .ref ((wM b).2.2.2 + 0)] M (md_rest_J17 p1 s0 M) := by
  rw [md_rest_J17]
  refine x_putI C fl_X12_59 cl_11 fint_11_0 nM0 kM0 fM0_0 dX12_rest_17 ?_
  refine x_ltM (fun M2 => ?_)
  refine x_aloadn C dX12_rest_20 rfl ?_
  refine x_getI C fl_X12_59 cl_11 nM0 kM0 fM0_0 dX12_rest_21 ?_
  refine x_ifle C dX12_rest_24 (tgt := 29) (by decide) (fun _h => ?_) (fun _h => ?_)
  · refine x_aloadn C dX12_rest_29 rfl ?_
    refine x_iloadn C dX12_rest_30 (x := p1) rfl ?_
    refine x_Vv (st := []) C (c_md_goOn  (p1) M2) lk_X12_236 nM0 kM0 ⟨_, _, rfl⟩ rfl rfl (Nat.le_of_ble_eq_true rfl) (rmok_d (by decide) (by decide)) ⟨Nat.zero_le _, Nat.zero_le _⟩ dX12_rest_31 (fun M3 => ?_)
    refine x_aloadn C dX12_rest_34 rfl ?_
    refine x_getR C fl_X12_7 cl_11 (1) nM0 kM0 fM0_1 dX12_rest_35 ?_
    refine x_iconst C dX12_rest_38 (v := (2 : Int32)) (by decide) ?_
    refine x_ialdj C nM1 kM1 (j := 2) (by decide) (by decide) dX12_rest_39 ?_
    exact x_iret C dX12_rest_40 rfl
  · refine x_iconst C dX12_rest_27 (v := (0 : Int32)) (by decide) ?_
    exact x_iret C dX12_rest_28 rfl
set_option maxHeartbeats 4000000 in
set_option maxRecDepth 20000 in
theorem c_md_rest {l : Launch} {g : GG} {b : Nat} (p1 : Int32) (M : Mem) : CT l g (wM b) (rmd 3) yX12_rest cX12_rest 2 (some .int) [.ref ((wM b).2.2.2 + 0), .int p1] M finM (md_rest p1 M) := by
  refine CT.of rfl (Nat.le_of_ble_eq_true rfl) (catc rfl (catc rfl cat0)) (fun z C => ?_)
  have C : Cx z l g (wM b) (rmd 3) cX12_rest 2 RX12 (some .int) := C
  refine x_wk (L' := [some (.ref ((wM b).2.2.2 + 0)), some (.int p1)]) (And.intro rfl (And.intro rfl trivial)) ?_
  rw [md_rest]
  refine x_aloadn C dX12_rest_0 rfl ?_
  refine x_iloadn C dX12_rest_1 (x := p1) rfl ?_
  refine x_iconst C dX12_rest_2 (v := (1 : Int32)) (by decide) ?_
  refine x_sipush C dX12_rest_3 (v := (600 : Int32)) (by decide) ?_
  refine x_Si (st := [.ref ((wM b).2.2.2 + 0)]) C (c_md_isIn  (p1) ((1 : Int32)) ((600 : Int32)) M) lk_X12_62 rfl rfl (Nat.le_of_ble_eq_true rfl) (rmok_d (by decide) (by decide)) ⟨Nat.zero_le _, Nat.zero_le _⟩ dX12_rest_6 (fun v1 => ?_)
  refine x_ifne C dX12_rest_9 (tgt := 16) (by decide) (fun _h => ?_) (fun _h => ?_)
  · refine x_iconst C dX12_rest_16 (v := (0 : Int32)) (by decide) ?_
    exact x_wk (L' := [some (.ref ((wM b).2.2.2 + 0)), some (.int p1)]) (And.intro rfl (And.intro rfl trivial)) (w_md_rest_J17 C p1   ((0 : Int32)) M)
  · refine x_iconst C dX12_rest_12 (v := (1 : Int32)) (by decide) ?_
    refine x_goto C dX12_rest_13 (tgt := 17) (by decide) ?_
    exact x_wk (L' := [some (.ref ((wM b).2.2.2 + 0)), some (.int p1)]) (And.intro rfl (And.intro rfl trivial)) (w_md_rest_J17 C p1   ((1 : Int32)) M)
def md_may (p1 : Int32) (M : Mem) : Option (Int32 × Mem) := lt1 (wr M 0 0 (0 : Int32)) fun M1 => (md_everybody M1).bind fun v2 => (md_mayBe ((p1 &&& v2)) M1).bind fun v3 => chk (isB v3) (some (v3, M1))
set_option maxHeartbeats 4000000 in
set_option maxRecDepth 20000 in
theorem c_md_may {l : Launch} {g : GG} {b : Nat} (p1 : Int32) (M : Mem) : CT l g (wM b) (rmd 3) yX12_may cX12_may 2 (some .boolean) [.ref ((wM b).2.2.2 + 0), .int p1] M finM (md_may p1 M) := by
  refine CT.of rfl (Nat.le_of_ble_eq_true rfl) (catc rfl (catc rfl cat0)) (fun z C => ?_)
  have C : Cx z l g (wM b) (rmd 3) cX12_may 2 RX12 (some .boolean) := C
  refine x_wk (L' := [some (.ref ((wM b).2.2.2 + 0)), some (.int p1)]) (And.intro rfl (And.intro rfl trivial)) ?_
  rw [md_may]
  refine x_aloadn C dX12_may_0 rfl ?_
  refine x_iconst C dX12_may_1 (v := (0 : Int32)) (by decide) ?_
  refine x_putI C fl_X12_59 cl_11 fint_11_0 nM0 kM0 fM0_0 dX12_may_2 ?_
  refine x_ltM (fun M1 => ?_)
  refine x_aloadn C dX12_may_5 rfl ?_
  refine x_iloadn C dX12_may_6 (x := p1) rfl ?_
  refine x_aloadn C dX12_may_7 rfl ?_
  refine x_Vi (st := [.int p1, .ref ((wM b).2.2.2 + 0)]) C (c_md_everybody   M1) lk_X12_208 nM0 kM0 ⟨_, _, rfl⟩ rfl rfl (Nat.le_of_ble_eq_true rfl) (rmok_d (by decide) (by decide)) ⟨Nat.zero_le _, Nat.zero_le _⟩ dX12_may_8 (fun v2 => ?_)
  refine x_iand C dX12_may_11 ?_
  refine x_Vi (st := []) C (c_md_mayBe  ((p1 &&& v2)) M1) lk_X12_220 nM0 kM0 ⟨_, _, rfl⟩ rfl rfl (Nat.le_of_ble_eq_true rfl) (rmok_d (by decide) (by decide)) ⟨Nat.zero_le _, Nat.zero_le _⟩ dX12_may_12 (fun v3 => ?_)
  exact x_zretc C dX12_may_15 rfl
def md_balanceOf_L4 (p1 : Int32) (M : Mem) (K : Int32 → Option Int32) : Nat → Int32 → Int32 → Option Int32
  | 0, _, _ => none
  | fu + 1, x2, x3 => (if x3 < (M 1 1) then chk (inb (((148 : Int32) + ((10 : Int32) * x3)) + p1) 648) (chk (inb (((148 : Int32) + ((10 : Int32) * p1)) + x3) 648) (lt1 ((x2 + ((M 1 (((148 : Int32) + ((10 : Int32) * x3)) + p1).toNatClampNeg) - (M 1 (((148 : Int32) + ((10 : Int32) * p1)) + x3).toNatClampNeg)))) fun v1 => md_balanceOf_L4 p1 M K fu (v1) ((x3 + (1 : Int32))))) else K (x2))
def md_balanceOf (p1 : Int32) (M : Mem) : Option Int32 := md_balanceOf_L4 p1 M (fun v2_1 => some (v2_1)) FU ((0 : Int32)) ((0 : Int32))
set_option maxHeartbeats 4000000 in
set_option maxRecDepth 20000 in
theorem w_md_balanceOf_L4 {z : ZT} {l : Launch} {g : GG} {b : Nat} (C : Cx z l g (wM b) (rmd 1) cX12_balanceOf 4 RX12 (some .int)) (p1 : Int32) (M : Mem) {K : Int32 → Option Int32} (hK : ∀ (x2 : Int32) , XG z g (wM b) 4 (ZQ z g (wM b) (finI M)) 0 0 54 [none, none, some (.int x2), none] [] M (K x2)) : ∀ (fu : Nat) (x2 : Int32) (x3 : Int32), XG z g (wM b) 4 (ZQ z g (wM b) (finI M)) 0 0 4 [some (.ref ((wM b).2.2.2 + 0)), some (.int p1), some (.int x2), some (.int x3)] [] M (md_balanceOf_L4 p1 M K fu x2 x3) := by
  intro fu
  induction fu with
  | zero => intro x2 x3; exact x_none
  | succ fu ih =>
    intro x2 x3
    rw [md_balanceOf_L4]
    refine x_iloadn C dX12_balanceOf_4 (x := x3) rfl ?_
    refine x_aloadn C dX12_balanceOf_5 rfl ?_
    refine x_getR C fl_X12_7 cl_11 (1) nM0 kM0 fM0_1 dX12_balanceOf_6 ?_
    refine x_iconst C dX12_balanceOf_9 (v := (1 : Int32)) (by decide) ?_
    refine x_ialdj C nM1 kM1 (j := 1) (by decide) (by decide) dX12_balanceOf_10 ?_
    refine x_icmpge C dX12_balanceOf_11 (tgt := 54) (by decide) (fun _h => ?_) (fun _h => ?_)
    · exact x_wk (L' := [none, none, some (.int x2), none]) (And.intro rfl trivial) (hK (x2))
    · refine x_iloadn C dX12_balanceOf_14 (x := x2) rfl ?_
      refine x_aloadn C dX12_balanceOf_15 rfl ?_
      refine x_getR C fl_X12_7 cl_11 (1) nM0 kM0 fM0_1 dX12_balanceOf_16 ?_
      refine x_sipush C dX12_balanceOf_19 (v := (148 : Int32)) (by decide) ?_
      refine x_bipush C dX12_balanceOf_22 (v := (10 : Int32)) (by decide) ?_
      refine x_iloadn C dX12_balanceOf_24 (x := x3) rfl ?_
      refine x_imul C dX12_balanceOf_25 ?_
      refine x_iadd C dX12_balanceOf_26 ?_
      refine x_iloadn C dX12_balanceOf_27 (x := p1) rfl ?_
      refine x_iadd C dX12_balanceOf_28 ?_
      refine x_iald C nM1 kM1 dX12_balanceOf_29 ?_
      refine x_aloadn C dX12_balanceOf_30 rfl ?_
      refine x_getR C fl_X12_7 cl_11 (1) nM0 kM0 fM0_1 dX12_balanceOf_31 ?_
      refine x_sipush C dX12_balanceOf_34 (v := (148 : Int32)) (by decide) ?_
      refine x_bipush C dX12_balanceOf_37 (v := (10 : Int32)) (by decide) ?_
      refine x_iloadn C dX12_balanceOf_39 (x := p1) rfl ?_
      refine x_imul C dX12_balanceOf_40 ?_
      refine x_iadd C dX12_balanceOf_41 ?_
      refine x_iloadn C dX12_balanceOf_42 (x := x3) rfl ?_
      refine x_iadd C dX12_balanceOf_43 ?_
      refine x_iald C nM1 kM1 dX12_balanceOf_44 ?_
      refine x_isub C dX12_balanceOf_45 ?_
      refine x_iadd C dX12_balanceOf_46 ?_
      refine x_lti (fun v1 => ?_)
      refine x_istoren C dX12_balanceOf_47 (L' := [some (.ref ((wM b).2.2.2 + 0)), some (.int p1), some (.int v1), some (.int x3)]) (ltb rfl) rfl ?_
      refine x_iinc C dX12_balanceOf_48 (v := (x3 + (1 : Int32))) rfl rfl (L' := [some (.ref ((wM b).2.2.2 + 0)), some (.int p1), some (.int v1), some (.int (x3 + (1 : Int32)))]) rfl ?_
      refine x_goto C dX12_balanceOf_51 (tgt := 4) (by decide) ?_
      exact x_wk (L' := [some (.ref ((wM b).2.2.2 + 0)), some (.int p1), some (.int v1), some (.int (x3 + (1 : Int32)))]) (And.intro rfl (And.intro rfl (And.intro rfl (And.intro rfl trivial)))) (ih (v1) ((x3 + (1 : Int32))))
set_option maxHeartbeats 4000000 in
set_option maxRecDepth 20000 in
theorem c_md_balanceOf {l : Launch} {g : GG} {b : Nat} (p1 : Int32) (M : Mem) : CT l g (wM b) (rmd 1) yX12_balanceOf cX12_balanceOf 4 (some .int) [.ref ((wM b).2.2.2 + 0), .int p1] M (finI M) (md_balanceOf p1 M) := by
  refine CT.of rfl (Nat.le_of_ble_eq_true rfl) (catc rfl (catc rfl cat0)) (fun z C => ?_)
  have C : Cx z l g (wM b) (rmd 1) cX12_balanceOf 4 RX12 (some .int) := C
  refine x_wk (L' := [some (.ref ((wM b).2.2.2 + 0)), some (.int p1), none, none]) (And.intro rfl (And.intro rfl trivial)) ?_
  rw [md_balanceOf]
  refine x_iconst C dX12_balanceOf_0 (v := (0 : Int32)) (by decide) ?_
  refine x_istoren C dX12_balanceOf_1 (L' := [some (.ref ((wM b).2.2.2 + 0)), some (.int p1), some (.int (0 : Int32)), none]) (ltb rfl) rfl ?_
  refine x_iconst C dX12_balanceOf_2 (v := (0 : Int32)) (by decide) ?_
  refine x_istoren C dX12_balanceOf_3 (L' := [some (.ref ((wM b).2.2.2 + 0)), some (.int p1), some (.int (0 : Int32)), some (.int (0 : Int32))]) (ltb rfl) rfl ?_
  refine x_wk (L' := [some (.ref ((wM b).2.2.2 + 0)), some (.int p1), some (.int (0 : Int32)), some (.int (0 : Int32))]) (And.intro rfl (And.intro rfl (And.intro rfl (And.intro rfl trivial)))) (w_md_balanceOf_L4 C p1  M (fun v2_1 => ?_) FU ((0 : Int32)) ((0 : Int32)) )
  refine x_iloadn C dX12_balanceOf_54 (x := v2_1) rfl ?_
  exact x_iret C dX12_balanceOf_55 rfl
def md_look_J28 (p1 : Int32) (p2 : Int32) (s0 : Int32) (M : Mem) : Option (Int32 × Mem) := lt1 (wr M 0 0 s0) fun M3 => (if 0 < (M3 0 0) then some ((0 : Int32), M3) else (if p2 < (5 : Int32) then (md_of (p1) (p2) M3).bind fun v6 => some (v6, M3) else (if p2 = (5 : Int32) then (md_forceOf (p1) M3).bind fun v5 => some (v5, M3) else (if p2 = (6 : Int32) then some ((((M3 1 4) >>> (p1 &&& 31)) &&& (1 : Int32)), M3) else (md_balanceOf (p1) M3).bind fun v4 => some (v4, M3)))))
def md_look (p1 : Int32) (p2 : Int32) (M : Mem) : Option (Int32 × Mem) := (md_isBeing (p1) M).bind fun v1 => (if v1 = 0 then md_look_J28 p1 p2 ((1 : Int32)) M else (md_isIn (p2) ((0 : Int32)) ((7 : Int32)) M).bind fun v2 => (if v2 = 0 then md_look_J28 p1 p2 ((2 : Int32)) M else md_look_J28 p1 p2 ((0 : Int32)) M))
set_option maxHeartbeats 4000000 in
set_option maxRecDepth 20000 in
theorem w_md_look_J28 {z : ZT} {l : Launch} {g : GG} {b : Nat} (C : Cx z l g (wM b) (rmd 3) cX12_look 3 RX12 (some .int)) (p1 : Int32) (p2 : Int32)  (s0 : Int32) (M : Mem) : XG z g (wM b) 3 (ZQ z g (wM b) finM) 0 0 28 [some (.ref ((wM b).2.2.2 + 0)), some (.int p1), some (.int p2)] [.int s0, .ref ((wM b).2.2.2 + 0)] M (md_look_J28 p1 p2 s0 M) := by
  rw [md_look_J28]
  refine x_putI C fl_X12_59 cl_11 fint_11_0 nM0 kM0 fM0_0 dX12_look_28 ?_
  refine x_ltM (fun M3 => ?_)
  refine x_aloadn C dX12_look_31 rfl ?_
  refine x_getI C fl_X12_59 cl_11 nM0 kM0 fM0_0 dX12_look_32 ?_
  refine x_ifle C dX12_look_35 (tgt := 40) (by decide) (fun _h => ?_) (fun _h => ?_)
  · refine x_iloadn C dX12_look_40 (x := p2) rfl ?_
    refine x_iconst C dX12_look_41 (v := (5 : Int32)) (by decide) ?_
    refine x_icmpge C dX12_look_42 (tgt := 54) (by decide) (fun _h => ?_) (fun _h => ?_)
    · refine x_iloadn C dX12_look_54 (x := p2) rfl ?_
      refine x_iconst C dX12_look_55 (v := (5 : Int32)) (by decide) ?_
      refine x_icmpne C dX12_look_56 (tgt := 67) (by decide) (fun _h => ?_) (fun _h => ?_)
      · refine x_iloadn C dX12_look_67 (x := p2) rfl ?_
        refine x_bipush C dX12_look_68 (v := (6 : Int32)) (by decide) ?_
        refine x_icmpne C dX12_look_70 (tgt := 86) (by decide) (fun _h => ?_) (fun _h => ?_)
        · refine x_aloadn C dX12_look_86 rfl ?_
          refine x_iloadn C dX12_look_87 (x := p1) rfl ?_
          refine x_Vi (st := []) C (c_md_balanceOf  (p1) M3) lk_X12_245 nM0 kM0 ⟨_, _, rfl⟩ rfl rfl (Nat.le_of_ble_eq_true rfl) (rmok_d (by decide) (by decide)) ⟨Nat.zero_le _, Nat.zero_le _⟩ dX12_look_88 (fun v4 => ?_)
          exact x_iret C dX12_look_91 rfl
        · refine x_aloadn C dX12_look_73 rfl ?_
          refine x_getR C fl_X12_7 cl_11 (1) nM0 kM0 fM0_1 dX12_look_74 ?_
          refine x_iconst C dX12_look_77 (v := (4 : Int32)) (by decide) ?_
          refine x_ialdj C nM1 kM1 (j := 4) (by decide) (by decide) dX12_look_78 ?_
          refine x_iloadn C dX12_look_79 (x := p1) rfl ?_
          refine x_ishr C dX12_look_80 ?_
          refine x_iconst C dX12_look_81 (v := (1 : Int32)) (by decide) ?_
          refine x_iand C dX12_look_82 ?_
          refine x_goto C dX12_look_83 (tgt := 91) (by decide) ?_
          exact x_iret C dX12_look_91 rfl
      · refine x_aloadn C dX12_look_59 rfl ?_
        refine x_iloadn C dX12_look_60 (x := p1) rfl ?_
        refine x_Vi (st := []) C (c_md_forceOf  (p1) M3) lk_X12_74 nM0 kM0 ⟨_, _, rfl⟩ rfl rfl (Nat.le_of_ble_eq_true rfl) (rmok_d (by decide) (by decide)) ⟨Nat.zero_le _, Nat.zero_le _⟩ dX12_look_61 (fun v5 => ?_)
        refine x_goto C dX12_look_64 (tgt := 91) (by decide) ?_
        exact x_iret C dX12_look_91 rfl
    · refine x_aloadn C dX12_look_45 rfl ?_
      refine x_iloadn C dX12_look_46 (x := p1) rfl ?_
      refine x_iloadn C dX12_look_47 (x := p2) rfl ?_
      refine x_Vi (st := []) C (c_md_of  (p1) (p2) M3) lk_X12_66 nM0 kM0 ⟨_, _, rfl⟩ rfl rfl (Nat.le_of_ble_eq_true rfl) (rmok_d (by decide) (by decide)) ⟨Nat.zero_le _, Nat.zero_le _⟩ dX12_look_48 (fun v6 => ?_)
      refine x_goto C dX12_look_51 (tgt := 91) (by decide) ?_
      exact x_iret C dX12_look_91 rfl
  · refine x_iconst C dX12_look_38 (v := (0 : Int32)) (by decide) ?_
    exact x_iret C dX12_look_39 rfl
set_option maxHeartbeats 4000000 in
set_option maxRecDepth 20000 in
theorem c_md_look {l : Launch} {g : GG} {b : Nat} (p1 : Int32) (p2 : Int32) (M : Mem) : CT l g (wM b) (rmd 3) yX12_look cX12_look 3 (some .int) [.ref ((wM b).2.2.2 + 0), .int p1, .int p2] M finM (md_look p1 p2 M) := by
  refine CT.of rfl (Nat.le_of_ble_eq_true rfl) (catc rfl (catc rfl (catc rfl cat0))) (fun z C => ?_)
  have C : Cx z l g (wM b) (rmd 3) cX12_look 3 RX12 (some .int) := C
  refine x_wk (L' := [some (.ref ((wM b).2.2.2 + 0)), some (.int p1), some (.int p2)]) (And.intro rfl (And.intro rfl (And.intro rfl trivial))) ?_
  rw [md_look]
  refine x_aloadn C dX12_look_0 rfl ?_
  refine x_aloadn C dX12_look_1 rfl ?_
  refine x_iloadn C dX12_look_2 (x := p1) rfl ?_
  refine x_Vi (st := [.ref ((wM b).2.2.2 + 0)]) C (c_md_isBeing  (p1) M) lk_X12_239 nM0 kM0 ⟨_, _, rfl⟩ rfl rfl (Nat.le_of_ble_eq_true rfl) (rmok_d (by decide) (by decide)) ⟨Nat.zero_le _, Nat.zero_le _⟩ dX12_look_3 (fun v1 => ?_)
  refine x_ifne C dX12_look_6 (tgt := 13) (by decide) (fun _h => ?_) (fun _h => ?_)
  · refine x_iloadn C dX12_look_13 (x := p2) rfl ?_
    refine x_iconst C dX12_look_14 (v := (0 : Int32)) (by decide) ?_
    refine x_bipush C dX12_look_15 (v := (7 : Int32)) (by decide) ?_
    refine x_Si (st := [.ref ((wM b).2.2.2 + 0)]) C (c_md_isIn  (p2) ((0 : Int32)) ((7 : Int32)) M) lk_X12_62 rfl rfl (Nat.le_of_ble_eq_true rfl) (rmok_d (by decide) (by decide)) ⟨Nat.zero_le _, Nat.zero_le _⟩ dX12_look_17 (fun v2 => ?_)
    refine x_ifne C dX12_look_20 (tgt := 27) (by decide) (fun _h => ?_) (fun _h => ?_)
    · refine x_iconst C dX12_look_27 (v := (0 : Int32)) (by decide) ?_
      exact x_wk (L' := [some (.ref ((wM b).2.2.2 + 0)), some (.int p1), some (.int p2)]) (And.intro rfl (And.intro rfl (And.intro rfl trivial))) (w_md_look_J28 C p1 p2   ((0 : Int32)) M)
    · refine x_iconst C dX12_look_23 (v := (2 : Int32)) (by decide) ?_
      refine x_goto C dX12_look_24 (tgt := 28) (by decide) ?_
      exact x_wk (L' := [some (.ref ((wM b).2.2.2 + 0)), some (.int p1), some (.int p2)]) (And.intro rfl (And.intro rfl (And.intro rfl trivial))) (w_md_look_J28 C p1 p2   ((2 : Int32)) M)
  · refine x_iconst C dX12_look_9 (v := (1 : Int32)) (by decide) ?_
    refine x_goto C dX12_look_10 (tgt := 28) (by decide) ?_
    exact x_wk (L' := [some (.ref ((wM b).2.2.2 + 0)), some (.int p1), some (.int p2)]) (And.intro rfl (And.intro rfl (And.intro rfl trivial))) (w_md_look_J28 C p1 p2   ((1 : Int32)) M)
def md_owed_J22 (p1 : Int32) (p2 : Int32) (s0 : Int32) (M : Mem) : Option (Int32 × Mem) := lt1 (wr M 0 0 s0) fun M2 => (if 0 < (M2 0 0) then some ((0 : Int32), M2) else chk (inb (((148 : Int32) + ((10 : Int32) * p1)) + p2) 648) (some ((M2 1 (((148 : Int32) + ((10 : Int32) * p1)) + p2).toNatClampNeg), M2)))
def md_owed_J17 (p1 : Int32) (p2 : Int32) (M : Mem) : Option (Int32 × Mem) := md_owed_J22 p1 p2 ((1 : Int32)) M
def md_owed (p1 : Int32) (p2 : Int32) (M : Mem) : Option (Int32 × Mem) := (md_isBeing (p1) M).bind fun v1 => (if v1 = 0 then md_owed_J17 p1 p2 M else (md_isBeing (p2) M).bind fun v3 => (if v3 = 0 then md_owed_J17 p1 p2 M else md_owed_J22 p1 p2 ((0 : Int32)) M))
set_option maxHeartbeats 4000000 in
set_option maxRecDepth 20000 in
theorem w_md_owed_J22 {z : ZT} {l : Launch} {g : GG} {b : Nat} (C : Cx z l g (wM b) (rmd 3) cX12_owed 3 RX12 (some .int)) (p1 : Int32) (p2 : Int32)  (s0 : Int32) (M : Mem) : XG z g (wM b) 3 (ZQ z g (wM b) finM) 0 0 22 [some (.ref ((wM b).2.2.2 + 0)), some (.int p1), some (.int p2)] [.int s0, .ref ((wM b).2.2.2 + 0)] M (md_owed_J22 p1 p2 s0 M) := by
  rw [md_owed_J22]
  refine x_putI C fl_X12_59 cl_11 fint_11_0 nM0 kM0 fM0_0 dX12_owed_22 ?_
  refine x_ltM (fun M2 => ?_)
  refine x_aloadn C dX12_owed_25 rfl ?_
  refine x_getI C fl_X12_59 cl_11 nM0 kM0 fM0_0 dX12_owed_26 ?_
  refine x_ifle C dX12_owed_29 (tgt := 34) (by decide) (fun _h => ?_) (fun _h => ?_)
  · refine x_aloadn C dX12_owed_34 rfl ?_
    refine x_getR C fl_X12_7 cl_11 (1) nM0 kM0 fM0_1 dX12_owed_35 ?_
    refine x_sipush C dX12_owed_38 (v := (148 : Int32)) (by decide) ?_
    refine x_bipush C dX12_owed_41 (v := (10 : Int32)) (by decide) ?_
    refine x_iloadn C dX12_owed_43 (x := p1) rfl ?_
    refine x_imul C dX12_owed_44 ?_
    refine x_iadd C dX12_owed_45 ?_
    refine x_iloadn C dX12_owed_46 (x := p2) rfl ?_
    refine x_iadd C dX12_owed_47 ?_
    refine x_iald C nM1 kM1 dX12_owed_48 ?_
    exact x_iret C dX12_owed_49 rfl
  · refine x_iconst C dX12_owed_32 (v := (0 : Int32)) (by decide) ?_
    exact x_iret C dX12_owed_33 rfl
set_option maxHeartbeats 4000000 in
set_option maxRecDepth 20000 in
theorem w_md_owed_J17 {z : ZT} {l : Launch} {g : GG} {b : Nat} (C : Cx z l g (wM b) (rmd 3) cX12_owed 3 RX12 (some .int)) (p1 : Int32) (p2 : Int32)  (M : Mem) : XG z g (wM b) 3 (ZQ z g (wM b) finM) 0 0 17 [some (.ref ((wM b).2.2.2 + 0)), some (.int p1), some (.int p2)] [.ref ((wM b).2.2.2 + 0)] M (md_owed_J17 p1 p2 M) := by
  rw [md_owed_J17]
  refine x_iconst C dX12_owed_17 (v := (1 : Int32)) (by decide) ?_
  refine x_goto C dX12_owed_18 (tgt := 22) (by decide) ?_
  exact x_wk (L' := [some (.ref ((wM b).2.2.2 + 0)), some (.int p1), some (.int p2)]) (And.intro rfl (And.intro rfl (And.intro rfl trivial))) (w_md_owed_J22 C p1 p2   ((1 : Int32)) M)
set_option maxHeartbeats 4000000 in
set_option maxRecDepth 20000 in
theorem c_md_owed {l : Launch} {g : GG} {b : Nat} (p1 : Int32) (p2 : Int32) (M : Mem) : CT l g (wM b) (rmd 3) yX12_owed cX12_owed 3 (some .int) [.ref ((wM b).2.2.2 + 0), .int p1, .int p2] M finM (md_owed p1 p2 M) := by
  refine CT.of rfl (Nat.le_of_ble_eq_true rfl) (catc rfl (catc rfl (catc rfl cat0))) (fun z C => ?_)
  have C : Cx z l g (wM b) (rmd 3) cX12_owed 3 RX12 (some .int) := C
  refine x_wk (L' := [some (.ref ((wM b).2.2.2 + 0)), some (.int p1), some (.int p2)]) (And.intro rfl (And.intro rfl (And.intro rfl trivial))) ?_
  rw [md_owed]
  refine x_aloadn C dX12_owed_0 rfl ?_
  refine x_aloadn C dX12_owed_1 rfl ?_
  refine x_iloadn C dX12_owed_2 (x := p1) rfl ?_
  refine x_Vi (st := [.ref ((wM b).2.2.2 + 0)]) C (c_md_isBeing  (p1) M) lk_X12_239 nM0 kM0 ⟨_, _, rfl⟩ rfl rfl (Nat.le_of_ble_eq_true rfl) (rmok_d (by decide) (by decide)) ⟨Nat.zero_le _, Nat.zero_le _⟩ dX12_owed_3 (fun v1 => ?_)
  refine x_ifeq C dX12_owed_6 (tgt := 17) (by decide) (fun _h => ?_) (fun _h => ?_)
  · exact x_wk (L' := [some (.ref ((wM b).2.2.2 + 0)), some (.int p1), some (.int p2)]) (And.intro rfl (And.intro rfl (And.intro rfl trivial))) (w_md_owed_J17 C p1 p2    M)
  · refine x_aloadn C dX12_owed_9 rfl ?_
    refine x_iloadn C dX12_owed_10 (x := p2) rfl ?_
    refine x_Vi (st := [.ref ((wM b).2.2.2 + 0)]) C (c_md_isBeing  (p2) M) lk_X12_239 nM0 kM0 ⟨_, _, rfl⟩ rfl rfl (Nat.le_of_ble_eq_true rfl) (rmok_d (by decide) (by decide)) ⟨Nat.zero_le _, Nat.zero_le _⟩ dX12_owed_11 (fun v3 => ?_)
    refine x_ifne C dX12_owed_14 (tgt := 21) (by decide) (fun _h => ?_) (fun _h => ?_)
    · refine x_iconst C dX12_owed_21 (v := (0 : Int32)) (by decide) ?_
      exact x_wk (L' := [some (.ref ((wM b).2.2.2 + 0)), some (.int p1), some (.int p2)]) (And.intro rfl (And.intro rfl (And.intro rfl trivial))) (w_md_owed_J22 C p1 p2   ((0 : Int32)) M)
    · exact x_wk (L' := [some (.ref ((wM b).2.2.2 + 0)), some (.int p1), some (.int p2)]) (And.intro rfl (And.intro rfl (And.intro rfl trivial))) (w_md_owed_J17 C p1 p2    M)
def md_clear_L25 (p1 : Int32) (K : Mem → Option (Int32 × Mem)) : Nat → Int32 → Mem → Option (Int32 × Mem)
  | 0, _, _ => none
  | fu + 1, x2, M => (if x2 < (M 1 1) then (md_balanceOf (x2) M).bind fun v2 => chk (inb x2 10) (lt1 (wr M 12 x2.toNatClampNeg v2) fun M3 => md_clear_L25 p1 K fu ((x2 + (1 : Int32))) (M3)) else K (M))
def md_clear_J110 (p1 : Int32) (rec : Int32 → Int32 → Int32 → Option (Int32 × Mem)) (K : Int32 → Int32 → Option (Int32 × Mem)) (x2 : Int32) (x5 : Int32) (x6 : Int32) (s0 : Int32) (M : Mem) : Option (Int32 × Mem) := (if x5 = (-1 : Int32) then rec (s0) (x6) ((x6 + (1 : Int32))) else chk (inb x6 10) (chk (inb x5 10) ((if (M 12 x6.toNatClampNeg) < (M 12 x5.toNatClampNeg) then rec (s0) (x6) ((x6 + (1 : Int32))) else rec (s0) (x5) ((x6 + (1 : Int32)))))))
def md_clear_J103 (p1 : Int32) (rec : Int32 → Int32 → Int32 → Option (Int32 × Mem)) (K : Int32 → Int32 → Option (Int32 × Mem)) (x2 : Int32) (x5 : Int32) (x6 : Int32) (M : Mem) : Option (Int32 × Mem) := md_clear_J110 p1 rec K (x2) (x5) (x6) (x6) M
def md_clear_L69 (p1 : Int32) (y2 : Int32) (M : Mem) (K : Int32 → Int32 → Option (Int32 × Mem)) : Nat → Int32 → Int32 → Int32 → Option (Int32 × Mem)
  | 0, _, _, _ => none
  | fu + 1, x4, x5, x6 => (if x6 < (M 1 1) then (if x4 = (-1 : Int32) then md_clear_J103 p1 (fun a4 a5 a6 => md_clear_L69 p1 y2 M K fu a4 a5 a6) K (y2) (x5) (x6) M else chk (inb x6 10) (chk (inb x4 10) ((if (M 12 x4.toNatClampNeg) < (M 12 x6.toNatClampNeg) then md_clear_J103 p1 (fun a4 a5 a6 => md_clear_L69 p1 y2 M K fu a4 a5 a6) K (y2) (x5) (x6) M else md_clear_J110 p1 (fun a4 a5 a6 => md_clear_L69 p1 y2 M K fu a4 a5 a6) K (y2) (x5) (x6) (x4) M)))) else K (x4) (x5))
def md_clear_J215 (p1 : Int32) (rec : Int32 → Int32 → Mem → Option (Int32 × Mem)) (K : Int32 → Mem → Option (Int32 × Mem)) (x2 : Int32) (x3 : Int32) (x4 : Int32) (x5 : Int32) (s0 : Int32) (M : Mem) : Option (Int32 × Mem) := (if x2 = p1 then some (((((10000 : Int32) * x5) + ((100 : Int32) * x4)) + (irem s0 (100 : Int32))), M) else chk (inb x4 10) (chk (inb x4 10) (lt1 (wr M 12 x4.toNatClampNeg ((M 12 x4.toNatClampNeg) - s0)) fun M7 => chk (inb x5 10) (chk (inb x5 10) (lt1 (wr M7 12 x5.toNatClampNeg ((M7 12 x5.toNatClampNeg) + s0)) fun M8 => rec ((x2 + (1 : Int32))) (x3) (M8))))))
def md_clear_J171 (p1 : Int32) (rec : Int32 → Int32 → Mem → Option (Int32 × Mem)) (K : Int32 → Mem → Option (Int32 × Mem)) (x2 : Int32) (x4 : Int32) (x5 : Int32) (s0 : Int32) (M : Mem) : Option (Int32 × Mem) := (if s0 = 0 then rec (x2) (s0) (M) else chk (inb x4 10) (chk (inb x5 10) ((if (M 12 x4.toNatClampNeg) < (-(M 12 x5.toNatClampNeg)) then chk (inb x4 10) (md_clear_J215 p1 rec K (x2) (s0) (x4) (x5) ((M 12 x4.toNatClampNeg)) M) else chk (inb x5 10) (md_clear_J215 p1 rec K (x2) (s0) (x4) (x5) ((-(M 12 x5.toNatClampNeg))) M)))))
def md_clear_J170 (p1 : Int32) (rec : Int32 → Int32 → Mem → Option (Int32 × Mem)) (K : Int32 → Mem → Option (Int32 × Mem)) (x2 : Int32) (x4 : Int32) (x5 : Int32) (M : Mem) : Option (Int32 × Mem) := md_clear_J171 p1 rec K (x2) (x4) (x5) ((0 : Int32)) M
def md_clear_L56 (p1 : Int32) (K : Int32 → Mem → Option (Int32 × Mem)) : Nat → Int32 → Int32 → Mem → Option (Int32 × Mem)
  | 0, _, _, _ => none
  | fu + 1, x2, x3, M => (if x3 = 0 then K (x2) (M) else md_clear_L69 p1 (x2) M (fun v4_5 v5_5 => (if v4_5 = (-1 : Int32) then md_clear_J170 p1 (fun a2 a3 aM => md_clear_L56 p1 K fu a2 a3 aM) K (x2) (v4_5) (v5_5) M else chk (inb v4_5 10) ((if 0 < (M 12 v4_5.toNatClampNeg) then md_clear_J171 p1 (fun a2 a3 aM => md_clear_L56 p1 K fu a2 a3 aM) K (x2) (v4_5) (v5_5) ((1 : Int32)) M else md_clear_J170 p1 (fun a2 a3 aM => md_clear_L56 p1 K fu a2 a3 aM) K (x2) (v4_5) (v5_5) M)))) FU ((-1 : Int32)) ((-1 : Int32)) ((0 : Int32)))
def md_clear_J11 (p1 : Int32) (s0 : Int32) (M : Mem) : Option (Int32 × Mem) := lt1 (wr M 0 0 s0) fun M1 => (if 0 < (M1 0 0) then some ((0 : Int32), M1) else md_clear_L25 p1 (fun M5 => md_clear_L56 p1 (fun v2_8 M10 => (if p1 = (-1 : Int32) then some (v2_8, M10) else some ((-1 : Int32), M10))) FU ((0 : Int32)) ((1 : Int32)) M5) FU ((0 : Int32)) M1)
def md_clear (p1 : Int32) (M : Mem) : Option (Int32 × Mem) := (if p1 < (-1 : Int32) then md_clear_J11 p1 ((1 : Int32)) M else md_clear_J11 p1 ((0 : Int32)) M)
set_option maxHeartbeats 4000000 in
set_option maxRecDepth 20000 in
theorem w_md_clear_L25 {z : ZT} {l : Launch} {g : GG} {b : Nat} (C : Cx z l g (wM b) (rmd 2) cX12_clear 7 RX12 (some .int)) (p1 : Int32) {K : Mem → Option (Int32 × Mem)} (hK : ∀ (M : Mem) , XG z g (wM b) 7 (ZQ z g (wM b) finM) 0 0 52 [some (.ref ((wM b).2.2.2 + 0)), some (.int p1), none, none, none, none, none] [] M (K M)) : ∀ (fu : Nat) (x2 : Int32) (M : Mem), XG z g (wM b) 7 (ZQ z g (wM b) finM) 0 0 25 [some (.ref ((wM b).2.2.2 + 0)), some (.int p1), some (.int x2), none, none, none, none] [] M (md_clear_L25 p1 K fu x2 M) := by
  intro fu
  induction fu with
  | zero => intro x2 M; exact x_none
  | succ fu ih =>
    intro x2 M
    rw [md_clear_L25]
    refine x_iloadn C dX12_clear_25 (x := x2) rfl ?_
    refine x_aloadn C dX12_clear_26 rfl ?_
    refine x_getR C fl_X12_7 cl_11 (1) nM0 kM0 fM0_1 dX12_clear_27 ?_
    refine x_iconst C dX12_clear_30 (v := (1 : Int32)) (by decide) ?_
    refine x_ialdj C nM1 kM1 (j := 1) (by decide) (by decide) dX12_clear_31 ?_
    refine x_icmpge C dX12_clear_32 (tgt := 52) (by decide) (fun _h => ?_) (fun _h => ?_)
    · exact x_wk (L' := [some (.ref ((wM b).2.2.2 + 0)), some (.int p1), none, none, none, none, none]) (And.intro rfl (And.intro rfl trivial)) (hK (M))
    · refine x_aloadn C dX12_clear_35 rfl ?_
      refine x_getR C fl_X12_47 cl_11 (12) nM0 kM0 fM0_23 dX12_clear_36 ?_
      refine x_iloadn C dX12_clear_39 (x := x2) rfl ?_
      refine x_aloadn C dX12_clear_40 rfl ?_
      refine x_iloadn C dX12_clear_41 (x := x2) rfl ?_
      refine x_Vi (st := [.int x2, .ref ((wM b).2.2.2 + 12)]) C (c_md_balanceOf  (x2) M) lk_X12_245 nM0 kM0 ⟨_, _, rfl⟩ rfl rfl (Nat.le_of_ble_eq_true rfl) (rmok_d (by decide) (by decide)) ⟨Nat.zero_le _, Nat.zero_le _⟩ dX12_clear_42 (fun v2 => ?_)
      refine x_iast C nM12 kM12 dX12_clear_45 ?_
      refine x_ltM (fun M3 => ?_)
      refine x_iinc C dX12_clear_46 (v := (x2 + (1 : Int32))) rfl rfl (L' := [some (.ref ((wM b).2.2.2 + 0)), some (.int p1), some (.int (x2 + (1 : Int32))), none, none, none, none]) rfl ?_
      refine x_goto C dX12_clear_49 (tgt := 25) (by decide) ?_
      exact x_wk (L' := [some (.ref ((wM b).2.2.2 + 0)), some (.int p1), some (.int (x2 + (1 : Int32))), none, none, none, none]) (And.intro rfl (And.intro rfl (And.intro rfl trivial))) (ih ((x2 + (1 : Int32))) (M3))
set_option maxHeartbeats 4000000 in
set_option maxRecDepth 20000 in
theorem w_md_clear_J110 {z : ZT} {l : Launch} {g : GG} {b : Nat} (C : Cx z l g (wM b) (rmd 2) cX12_clear 7 RX12 (some .int)) (p1 : Int32) (x2 : Int32) (M : Mem) {rec : Int32 → Int32 → Int32 → Option (Int32 × Mem)} (hrec : ∀ (u4 : Int32) (u5 : Int32) (u6 : Int32) , XG z g (wM b) 7 (ZQ z g (wM b) finM) 0 0 69 [some (.ref ((wM b).2.2.2 + 0)), some (.int p1), some (.int x2), none, some (.int u4), some (.int u5), some (.int u6)] [] M (rec u4 u5 u6)) {K : Int32 → Int32 → Option (Int32 × Mem)} (hK : ∀ (u4 : Int32) (u5 : Int32) , XG z g (wM b) 7 (ZQ z g (wM b) finM) 0 0 150 [some (.ref ((wM b).2.2.2 + 0)), some (.int p1), some (.int x2), none, some (.int u4), some (.int u5), none] [] M (K u4 u5)) (x5 : Int32) (x6 : Int32) (s0 : Int32) : XG z g (wM b) 7 (ZQ z g (wM b) finM) 0 0 110 [some (.ref ((wM b).2.2.2 + 0)), some (.int p1), some (.int x2), none, none, some (.int x5), some (.int x6)] [.int s0] M (md_clear_J110 p1 rec K x2 x5 x6 s0 M) := by
  rw [md_clear_J110]
  refine x_istore C dX12_clear_110 (L' := [some (.ref ((wM b).2.2.2 + 0)), some (.int p1), some (.int x2), none, some (.int s0), some (.int x5), some (.int x6)]) (ltb rfl) rfl ?_
  refine x_iload C dX12_clear_112 (x := x5) rfl ?_
  refine x_iconst C dX12_clear_114 (v := (-1 : Int32)) (by decide) ?_
  refine x_icmpeq C dX12_clear_115 (tgt := 135) (by decide) (fun _h => ?_) (fun _h => ?_)
  · refine x_iload C dX12_clear_135 (x := x6) rfl ?_
    refine x_goto C dX12_clear_137 (tgt := 142) (by decide) ?_
    refine x_istore C dX12_clear_142 (L' := [some (.ref ((wM b).2.2.2 + 0)), some (.int p1), some (.int x2), none, some (.int s0), some (.int x6), some (.int x6)]) (ltb rfl) rfl ?_
    refine x_iinc C dX12_clear_144 (v := (x6 + (1 : Int32))) rfl rfl (L' := [some (.ref ((wM b).2.2.2 + 0)), some (.int p1), some (.int x2), none, some (.int s0), some (.int x6), some (.int (x6 + (1 : Int32)))]) rfl ?_
    refine x_goto C dX12_clear_147 (tgt := 69) (by decide) ?_
    exact x_wk (L' := [some (.ref ((wM b).2.2.2 + 0)), some (.int p1), some (.int x2), none, some (.int s0), some (.int x6), some (.int (x6 + (1 : Int32)))]) (And.intro rfl (And.intro rfl (And.intro rfl (And.intro rfl (And.intro rfl (And.intro rfl trivial)))))) (hrec (s0) (x6) ((x6 + (1 : Int32))))
  · refine x_aloadn C dX12_clear_118 rfl ?_
    refine x_getR C fl_X12_47 cl_11 (12) nM0 kM0 fM0_23 dX12_clear_119 ?_
    refine x_iload C dX12_clear_122 (x := x6) rfl ?_
    refine x_iald C nM12 kM12 dX12_clear_124 ?_
    refine x_aloadn C dX12_clear_125 rfl ?_
    refine x_getR C fl_X12_47 cl_11 (12) nM0 kM0 fM0_23 dX12_clear_126 ?_
    refine x_iload C dX12_clear_129 (x := x5) rfl ?_
    refine x_iald C nM12 kM12 dX12_clear_131 ?_
    refine x_icmpge C dX12_clear_132 (tgt := 140) (by decide) (fun _h => ?_) (fun _h => ?_)
    · refine x_iload C dX12_clear_140 (x := x5) rfl ?_
      refine x_istore C dX12_clear_142 (L' := [some (.ref ((wM b).2.2.2 + 0)), some (.int p1), some (.int x2), none, some (.int s0), some (.int x5), some (.int x6)]) (ltb rfl) rfl ?_
      refine x_iinc C dX12_clear_144 (v := (x6 + (1 : Int32))) rfl rfl (L' := [some (.ref ((wM b).2.2.2 + 0)), some (.int p1), some (.int x2), none, some (.int s0), some (.int x5), some (.int (x6 + (1 : Int32)))]) rfl ?_
      refine x_goto C dX12_clear_147 (tgt := 69) (by decide) ?_
      exact x_wk (L' := [some (.ref ((wM b).2.2.2 + 0)), some (.int p1), some (.int x2), none, some (.int s0), some (.int x5), some (.int (x6 + (1 : Int32)))]) (And.intro rfl (And.intro rfl (And.intro rfl (And.intro rfl (And.intro rfl (And.intro rfl trivial)))))) (hrec (s0) (x5) ((x6 + (1 : Int32))))
    · refine x_iload C dX12_clear_135 (x := x6) rfl ?_
      refine x_goto C dX12_clear_137 (tgt := 142) (by decide) ?_
      refine x_istore C dX12_clear_142 (L' := [some (.ref ((wM b).2.2.2 + 0)), some (.int p1), some (.int x2), none, some (.int s0), some (.int x6), some (.int x6)]) (ltb rfl) rfl ?_
      refine x_iinc C dX12_clear_144 (v := (x6 + (1 : Int32))) rfl rfl (L' := [some (.ref ((wM b).2.2.2 + 0)), some (.int p1), some (.int x2), none, some (.int s0), some (.int x6), some (.int (x6 + (1 : Int32)))]) rfl ?_
      refine x_goto C dX12_clear_147 (tgt := 69) (by decide) ?_
      exact x_wk (L' := [some (.ref ((wM b).2.2.2 + 0)), some (.int p1), some (.int x2), none, some (.int s0), some (.int x6), some (.int (x6 + (1 : Int32)))]) (And.intro rfl (And.intro rfl (And.intro rfl (And.intro rfl (And.intro rfl (And.intro rfl trivial)))))) (hrec (s0) (x6) ((x6 + (1 : Int32))))
set_option maxHeartbeats 4000000 in
set_option maxRecDepth 20000 in
theorem w_md_clear_J103 {z : ZT} {l : Launch} {g : GG} {b : Nat} (C : Cx z l g (wM b) (rmd 2) cX12_clear 7 RX12 (some .int)) (p1 : Int32) (x2 : Int32) (M : Mem) {rec : Int32 → Int32 → Int32 → Option (Int32 × Mem)} (hrec : ∀ (u4 : Int32) (u5 : Int32) (u6 : Int32) , XG z g (wM b) 7 (ZQ z g (wM b) finM) 0 0 69 [some (.ref ((wM b).2.2.2 + 0)), some (.int p1), some (.int x2), none, some (.int u4), some (.int u5), some (.int u6)] [] M (rec u4 u5 u6)) {K : Int32 → Int32 → Option (Int32 × Mem)} (hK : ∀ (u4 : Int32) (u5 : Int32) , XG z g (wM b) 7 (ZQ z g (wM b) finM) 0 0 150 [some (.ref ((wM b).2.2.2 + 0)), some (.int p1), some (.int x2), none, some (.int u4), some (.int u5), none] [] M (K u4 u5)) (x5 : Int32) (x6 : Int32) : XG z g (wM b) 7 (ZQ z g (wM b) finM) 0 0 103 [some (.ref ((wM b).2.2.2 + 0)), some (.int p1), some (.int x2), none, none, some (.int x5), some (.int x6)] [] M (md_clear_J103 p1 rec K x2 x5 x6 M) := by
  rw [md_clear_J103]
  refine x_iload C dX12_clear_103 (x := x6) rfl ?_
  refine x_goto C dX12_clear_105 (tgt := 110) (by decide) ?_
  exact x_wk (L' := [some (.ref ((wM b).2.2.2 + 0)), some (.int p1), some (.int x2), none, none, some (.int x5), some (.int x6)]) (And.intro rfl (And.intro rfl (And.intro rfl (And.intro rfl (And.intro rfl trivial))))) (w_md_clear_J110 C p1 (x2) M hrec hK (x5) (x6) (x6))
set_option maxHeartbeats 4000000 in
set_option maxRecDepth 20000 in
theorem w_md_clear_L69 {z : ZT} {l : Launch} {g : GG} {b : Nat} (C : Cx z l g (wM b) (rmd 2) cX12_clear 7 RX12 (some .int)) (p1 : Int32) (y2 : Int32) (M : Mem) {K : Int32 → Int32 → Option (Int32 × Mem)} (hK : ∀ (x4 : Int32) (x5 : Int32) , XG z g (wM b) 7 (ZQ z g (wM b) finM) 0 0 150 [some (.ref ((wM b).2.2.2 + 0)), some (.int p1), some (.int y2), none, some (.int x4), some (.int x5), none] [] M (K x4 x5)) : ∀ (fu : Nat) (x4 : Int32) (x5 : Int32) (x6 : Int32), XG z g (wM b) 7 (ZQ z g (wM b) finM) 0 0 69 [some (.ref ((wM b).2.2.2 + 0)), some (.int p1), some (.int y2), none, some (.int x4), some (.int x5), some (.int x6)] [] M (md_clear_L69 p1 y2 M K fu x4 x5 x6) := by
  intro fu
  induction fu with
  | zero => intro x4 x5 x6; exact x_none
  | succ fu ih =>
    intro x4 x5 x6
    rw [md_clear_L69]
    refine x_iload C dX12_clear_69 (x := x6) rfl ?_
    refine x_aloadn C dX12_clear_71 rfl ?_
    refine x_getR C fl_X12_7 cl_11 (1) nM0 kM0 fM0_1 dX12_clear_72 ?_
    refine x_iconst C dX12_clear_75 (v := (1 : Int32)) (by decide) ?_
    refine x_ialdj C nM1 kM1 (j := 1) (by decide) (by decide) dX12_clear_76 ?_
    refine x_icmpge C dX12_clear_77 (tgt := 150) (by decide) (fun _h => ?_) (fun _h => ?_)
    · exact x_wk (L' := [some (.ref ((wM b).2.2.2 + 0)), some (.int p1), some (.int y2), none, some (.int x4), some (.int x5), none]) (And.intro rfl (And.intro rfl (And.intro rfl (And.intro rfl (And.intro rfl trivial))))) (hK (x4) (x5))
    · refine x_iload C dX12_clear_80 (x := x4) rfl ?_
      refine x_iconst C dX12_clear_82 (v := (-1 : Int32)) (by decide) ?_
      refine x_icmpeq C dX12_clear_83 (tgt := 103) (by decide) (fun _h => ?_) (fun _h => ?_)
      · exact x_wk (L' := [some (.ref ((wM b).2.2.2 + 0)), some (.int p1), some (.int y2), none, none, some (.int x5), some (.int x6)]) (And.intro rfl (And.intro rfl (And.intro rfl (And.intro rfl (And.intro rfl trivial))))) (w_md_clear_J103 C p1 (y2) M ih hK (x5) (x6) )
      · refine x_aloadn C dX12_clear_86 rfl ?_
        refine x_getR C fl_X12_47 cl_11 (12) nM0 kM0 fM0_23 dX12_clear_87 ?_
        refine x_iload C dX12_clear_90 (x := x6) rfl ?_
        refine x_iald C nM12 kM12 dX12_clear_92 ?_
        refine x_aloadn C dX12_clear_93 rfl ?_
        refine x_getR C fl_X12_47 cl_11 (12) nM0 kM0 fM0_23 dX12_clear_94 ?_
        refine x_iload C dX12_clear_97 (x := x4) rfl ?_
        refine x_iald C nM12 kM12 dX12_clear_99 ?_
        refine x_icmple C dX12_clear_100 (tgt := 108) (by decide) (fun _h => ?_) (fun _h => ?_)
        · refine x_iload C dX12_clear_108 (x := x4) rfl ?_
          exact x_wk (L' := [some (.ref ((wM b).2.2.2 + 0)), some (.int p1), some (.int y2), none, none, some (.int x5), some (.int x6)]) (And.intro rfl (And.intro rfl (And.intro rfl (And.intro rfl (And.intro rfl trivial))))) (w_md_clear_J110 C p1 (y2) M ih hK (x5) (x6) (x4))
        · exact x_wk (L' := [some (.ref ((wM b).2.2.2 + 0)), some (.int p1), some (.int y2), none, none, some (.int x5), some (.int x6)]) (And.intro rfl (And.intro rfl (And.intro rfl (And.intro rfl (And.intro rfl trivial))))) (w_md_clear_J103 C p1 (y2) M ih hK (x5) (x6) )
set_option maxHeartbeats 4000000 in
set_option maxRecDepth 20000 in
theorem w_md_clear_J215 {z : ZT} {l : Launch} {g : GG} {b : Nat} (C : Cx z l g (wM b) (rmd 2) cX12_clear 7 RX12 (some .int)) (p1 : Int32)  {rec : Int32 → Int32 → Mem → Option (Int32 × Mem)} (hrec : ∀ (u2 : Int32) (u3 : Int32) (M : Mem) , XG z g (wM b) 7 (ZQ z g (wM b) finM) 0 0 56 [some (.ref ((wM b).2.2.2 + 0)), some (.int p1), some (.int u2), some (.int u3), none, none, none] [] M (rec u2 u3 M)) {K : Int32 → Mem → Option (Int32 × Mem)} (hK : ∀ (u2 : Int32) (M : Mem) , XG z g (wM b) 7 (ZQ z g (wM b) finM) 0 0 271 [none, some (.int p1), some (.int u2), none, none, none, none] [] M (K u2 M)) (x2 : Int32) (x3 : Int32) (x4 : Int32) (x5 : Int32) (s0 : Int32) (M : Mem) : XG z g (wM b) 7 (ZQ z g (wM b) finM) 0 0 215 [some (.ref ((wM b).2.2.2 + 0)), some (.int p1), some (.int x2), some (.int x3), some (.int x4), some (.int x5), none] [.int s0] M (md_clear_J215 p1 rec K x2 x3 x4 x5 s0 M) := by
  rw [md_clear_J215]
  refine x_istore C dX12_clear_215 (L' := [some (.ref ((wM b).2.2.2 + 0)), some (.int p1), some (.int x2), some (.int x3), some (.int x4), some (.int x5), some (.int s0)]) (ltb rfl) rfl ?_
  refine x_iloadn C dX12_clear_217 (x := x2) rfl ?_
  refine x_iloadn C dX12_clear_218 (x := p1) rfl ?_
  refine x_icmpne C dX12_clear_219 (tgt := 241) (by decide) (fun _h => ?_) (fun _h => ?_)
  · refine x_aloadn C dX12_clear_241 rfl ?_
    refine x_getR C fl_X12_47 cl_11 (12) nM0 kM0 fM0_23 dX12_clear_242 ?_
    refine x_iload C dX12_clear_245 (x := x4) rfl ?_
    refine x_dup2 C dX12_clear_247 rfl rfl ?_
    refine x_iald C nM12 kM12 dX12_clear_248 ?_
    refine x_iload C dX12_clear_249 (x := s0) rfl ?_
    refine x_isub C dX12_clear_251 ?_
    refine x_iast C nM12 kM12 dX12_clear_252 ?_
    refine x_ltM (fun M7 => ?_)
    refine x_aloadn C dX12_clear_253 rfl ?_
    refine x_getR C fl_X12_47 cl_11 (12) nM0 kM0 fM0_23 dX12_clear_254 ?_
    refine x_iload C dX12_clear_257 (x := x5) rfl ?_
    refine x_dup2 C dX12_clear_259 rfl rfl ?_
    refine x_iald C nM12 kM12 dX12_clear_260 ?_
    refine x_iload C dX12_clear_261 (x := s0) rfl ?_
    refine x_iadd C dX12_clear_263 ?_
    refine x_iast C nM12 kM12 dX12_clear_264 ?_
    refine x_ltM (fun M8 => ?_)
    refine x_iinc C dX12_clear_265 (v := (x2 + (1 : Int32))) rfl rfl (L' := [some (.ref ((wM b).2.2.2 + 0)), some (.int p1), some (.int (x2 + (1 : Int32))), some (.int x3), some (.int x4), some (.int x5), some (.int s0)]) rfl ?_
    refine x_goto C dX12_clear_268 (tgt := 56) (by decide) ?_
    exact x_wk (L' := [some (.ref ((wM b).2.2.2 + 0)), some (.int p1), some (.int (x2 + (1 : Int32))), some (.int x3), none, none, none]) (And.intro rfl (And.intro rfl (And.intro rfl (And.intro rfl trivial)))) (hrec ((x2 + (1 : Int32))) (x3) (M8))
  · refine x_sipush C dX12_clear_222 (v := (10000 : Int32)) (by decide) ?_
    refine x_iload C dX12_clear_225 (x := x5) rfl ?_
    refine x_imul C dX12_clear_227 ?_
    refine x_bipush C dX12_clear_228 (v := (100 : Int32)) (by decide) ?_
    refine x_iload C dX12_clear_230 (x := x4) rfl ?_
    refine x_imul C dX12_clear_232 ?_
    refine x_iadd C dX12_clear_233 ?_
    refine x_iload C dX12_clear_234 (x := s0) rfl ?_
    refine x_bipush C dX12_clear_236 (v := (100 : Int32)) (by decide) ?_
    refine x_irem C dX12_clear_238 (by decide) ?_
    refine x_iadd C dX12_clear_239 ?_
    exact x_iret C dX12_clear_240 rfl
set_option maxHeartbeats 4000000 in
set_option maxRecDepth 20000 in
theorem w_md_clear_J171 {z : ZT} {l : Launch} {g : GG} {b : Nat} (C : Cx z l g (wM b) (rmd 2) cX12_clear 7 RX12 (some .int)) (p1 : Int32)  {rec : Int32 → Int32 → Mem → Option (Int32 × Mem)} (hrec : ∀ (u2 : Int32) (u3 : Int32) (M : Mem) , XG z g (wM b) 7 (ZQ z g (wM b) finM) 0 0 56 [some (.ref ((wM b).2.2.2 + 0)), some (.int p1), some (.int u2), some (.int u3), none, none, none] [] M (rec u2 u3 M)) {K : Int32 → Mem → Option (Int32 × Mem)} (hK : ∀ (u2 : Int32) (M : Mem) , XG z g (wM b) 7 (ZQ z g (wM b) finM) 0 0 271 [none, some (.int p1), some (.int u2), none, none, none, none] [] M (K u2 M)) (x2 : Int32) (x4 : Int32) (x5 : Int32) (s0 : Int32) (M : Mem) : XG z g (wM b) 7 (ZQ z g (wM b) finM) 0 0 171 [some (.ref ((wM b).2.2.2 + 0)), some (.int p1), some (.int x2), none, some (.int x4), some (.int x5), none] [.int s0] M (md_clear_J171 p1 rec K x2 x4 x5 s0 M) := by
  rw [md_clear_J171]
  refine x_istoren C dX12_clear_171 (L' := [some (.ref ((wM b).2.2.2 + 0)), some (.int p1), some (.int x2), some (.int s0), some (.int x4), some (.int x5), none]) (ltb rfl) rfl ?_
  refine x_iloadn C dX12_clear_172 (x := s0) rfl ?_
  refine x_ifne C dX12_clear_173 (tgt := 179) (by decide) (fun _h => ?_) (fun _h => ?_)
  · refine x_aloadn C dX12_clear_179 rfl ?_
    refine x_getR C fl_X12_47 cl_11 (12) nM0 kM0 fM0_23 dX12_clear_180 ?_
    refine x_iload C dX12_clear_183 (x := x4) rfl ?_
    refine x_iald C nM12 kM12 dX12_clear_185 ?_
    refine x_aloadn C dX12_clear_186 rfl ?_
    refine x_getR C fl_X12_47 cl_11 (12) nM0 kM0 fM0_23 dX12_clear_187 ?_
    refine x_iload C dX12_clear_190 (x := x5) rfl ?_
    refine x_iald C nM12 kM12 dX12_clear_192 ?_
    refine x_ineg C dX12_clear_193 ?_
    refine x_icmpge C dX12_clear_194 (tgt := 207) (by decide) (fun _h => ?_) (fun _h => ?_)
    · refine x_aloadn C dX12_clear_207 rfl ?_
      refine x_getR C fl_X12_47 cl_11 (12) nM0 kM0 fM0_23 dX12_clear_208 ?_
      refine x_iload C dX12_clear_211 (x := x5) rfl ?_
      refine x_iald C nM12 kM12 dX12_clear_213 ?_
      refine x_ineg C dX12_clear_214 ?_
      exact x_wk (L' := [some (.ref ((wM b).2.2.2 + 0)), some (.int p1), some (.int x2), some (.int s0), some (.int x4), some (.int x5), none]) (And.intro rfl (And.intro rfl (And.intro rfl (And.intro rfl (And.intro rfl (And.intro rfl trivial)))))) (w_md_clear_J215 C p1  hrec hK (x2) (s0) (x4) (x5) ((-(M 12 x5.toNatClampNeg))) M)
    · refine x_aloadn C dX12_clear_197 rfl ?_
      refine x_getR C fl_X12_47 cl_11 (12) nM0 kM0 fM0_23 dX12_clear_198 ?_
      refine x_iload C dX12_clear_201 (x := x4) rfl ?_
      refine x_iald C nM12 kM12 dX12_clear_203 ?_
      refine x_goto C dX12_clear_204 (tgt := 215) (by decide) ?_
      exact x_wk (L' := [some (.ref ((wM b).2.2.2 + 0)), some (.int p1), some (.int x2), some (.int s0), some (.int x4), some (.int x5), none]) (And.intro rfl (And.intro rfl (And.intro rfl (And.intro rfl (And.intro rfl (And.intro rfl trivial)))))) (w_md_clear_J215 C p1  hrec hK (x2) (s0) (x4) (x5) ((M 12 x4.toNatClampNeg)) M)
  · refine x_goto C dX12_clear_176 (tgt := 56) (by decide) ?_
    exact x_wk (L' := [some (.ref ((wM b).2.2.2 + 0)), some (.int p1), some (.int x2), some (.int s0), none, none, none]) (And.intro rfl (And.intro rfl (And.intro rfl (And.intro rfl trivial)))) (hrec (x2) (s0) (M))
set_option maxHeartbeats 4000000 in
set_option maxRecDepth 20000 in
theorem w_md_clear_J170 {z : ZT} {l : Launch} {g : GG} {b : Nat} (C : Cx z l g (wM b) (rmd 2) cX12_clear 7 RX12 (some .int)) (p1 : Int32)  {rec : Int32 → Int32 → Mem → Option (Int32 × Mem)} (hrec : ∀ (u2 : Int32) (u3 : Int32) (M : Mem) , XG z g (wM b) 7 (ZQ z g (wM b) finM) 0 0 56 [some (.ref ((wM b).2.2.2 + 0)), some (.int p1), some (.int u2), some (.int u3), none, none, none] [] M (rec u2 u3 M)) {K : Int32 → Mem → Option (Int32 × Mem)} (hK : ∀ (u2 : Int32) (M : Mem) , XG z g (wM b) 7 (ZQ z g (wM b) finM) 0 0 271 [none, some (.int p1), some (.int u2), none, none, none, none] [] M (K u2 M)) (x2 : Int32) (x4 : Int32) (x5 : Int32) (M : Mem) : XG z g (wM b) 7 (ZQ z g (wM b) finM) 0 0 170 [some (.ref ((wM b).2.2.2 + 0)), some (.int p1), some (.int x2), none, some (.int x4), some (.int x5), none] [] M (md_clear_J170 p1 rec K x2 x4 x5 M) := by
  rw [md_clear_J170]
  refine x_iconst C dX12_clear_170 (v := (0 : Int32)) (by decide) ?_
  exact x_wk (L' := [some (.ref ((wM b).2.2.2 + 0)), some (.int p1), some (.int x2), none, some (.int x4), some (.int x5), none]) (And.intro rfl (And.intro rfl (And.intro rfl (And.intro rfl (And.intro rfl trivial))))) (w_md_clear_J171 C p1  hrec hK (x2) (x4) (x5) ((0 : Int32)) M)
set_option maxHeartbeats 4000000 in
set_option maxRecDepth 20000 in
theorem w_md_clear_L56 {z : ZT} {l : Launch} {g : GG} {b : Nat} (C : Cx z l g (wM b) (rmd 2) cX12_clear 7 RX12 (some .int)) (p1 : Int32) {K : Int32 → Mem → Option (Int32 × Mem)} (hK : ∀ (x2 : Int32) (M : Mem) , XG z g (wM b) 7 (ZQ z g (wM b) finM) 0 0 271 [none, some (.int p1), some (.int x2), none, none, none, none] [] M (K x2 M)) : ∀ (fu : Nat) (x2 : Int32) (x3 : Int32) (M : Mem), XG z g (wM b) 7 (ZQ z g (wM b) finM) 0 0 56 [some (.ref ((wM b).2.2.2 + 0)), some (.int p1), some (.int x2), some (.int x3), none, none, none] [] M (md_clear_L56 p1 K fu x2 x3 M) := by
  intro fu
  induction fu with
  | zero => intro x2 x3 M; exact x_none
  | succ fu ih =>
    intro x2 x3 M
    rw [md_clear_L56]
    refine x_iloadn C dX12_clear_56 (x := x3) rfl ?_
    refine x_ifeq C dX12_clear_57 (tgt := 271) (by decide) (fun _h => ?_) (fun _h => ?_)
    · exact x_wk (L' := [none, some (.int p1), some (.int x2), none, none, none, none]) (And.intro rfl (And.intro rfl trivial)) (hK (x2) (M))
    · refine x_iconst C dX12_clear_60 (v := (-1 : Int32)) (by decide) ?_
      refine x_istore C dX12_clear_61 (L' := [some (.ref ((wM b).2.2.2 + 0)), some (.int p1), some (.int x2), some (.int x3), some (.int (-1 : Int32)), none, none]) (ltb rfl) rfl ?_
      refine x_iconst C dX12_clear_63 (v := (-1 : Int32)) (by decide) ?_
      refine x_istore C dX12_clear_64 (L' := [some (.ref ((wM b).2.2.2 + 0)), some (.int p1), some (.int x2), some (.int x3), some (.int (-1 : Int32)), some (.int (-1 : Int32)), none]) (ltb rfl) rfl ?_
      refine x_iconst C dX12_clear_66 (v := (0 : Int32)) (by decide) ?_
      refine x_istore C dX12_clear_67 (L' := [some (.ref ((wM b).2.2.2 + 0)), some (.int p1), some (.int x2), some (.int x3), some (.int (-1 : Int32)), some (.int (-1 : Int32)), some (.int (0 : Int32))]) (ltb rfl) rfl ?_
      refine x_wk (L' := [some (.ref ((wM b).2.2.2 + 0)), some (.int p1), some (.int x2), none, some (.int (-1 : Int32)), some (.int (-1 : Int32)), some (.int (0 : Int32))]) (And.intro rfl (And.intro rfl (And.intro rfl (And.intro rfl (And.intro rfl (And.intro rfl trivial)))))) (w_md_clear_L69 C p1 (x2) M (fun v4_5 v5_5 => ?_) FU ((-1 : Int32)) ((-1 : Int32)) ((0 : Int32)) )
      refine x_iload C dX12_clear_150 (x := v4_5) rfl ?_
      refine x_iconst C dX12_clear_152 (v := (-1 : Int32)) (by decide) ?_
      refine x_icmpeq C dX12_clear_153 (tgt := 170) (by decide) (fun _h => ?_) (fun _h => ?_)
      · exact x_wk (L' := [some (.ref ((wM b).2.2.2 + 0)), some (.int p1), some (.int x2), none, some (.int v4_5), some (.int v5_5), none]) (And.intro rfl (And.intro rfl (And.intro rfl (And.intro rfl (And.intro rfl trivial))))) (w_md_clear_J170 C p1  ih hK (x2) (v4_5) (v5_5)  M)
      · refine x_aloadn C dX12_clear_156 rfl ?_
        refine x_getR C fl_X12_47 cl_11 (12) nM0 kM0 fM0_23 dX12_clear_157 ?_
        refine x_iload C dX12_clear_160 (x := v4_5) rfl ?_
        refine x_iald C nM12 kM12 dX12_clear_162 ?_
        refine x_ifle C dX12_clear_163 (tgt := 170) (by decide) (fun _h => ?_) (fun _h => ?_)
        · exact x_wk (L' := [some (.ref ((wM b).2.2.2 + 0)), some (.int p1), some (.int x2), none, some (.int v4_5), some (.int v5_5), none]) (And.intro rfl (And.intro rfl (And.intro rfl (And.intro rfl (And.intro rfl trivial))))) (w_md_clear_J170 C p1  ih hK (x2) (v4_5) (v5_5)  M)
        · refine x_iconst C dX12_clear_166 (v := (1 : Int32)) (by decide) ?_
          refine x_goto C dX12_clear_167 (tgt := 171) (by decide) ?_
          exact x_wk (L' := [some (.ref ((wM b).2.2.2 + 0)), some (.int p1), some (.int x2), none, some (.int v4_5), some (.int v5_5), none]) (And.intro rfl (And.intro rfl (And.intro rfl (And.intro rfl (And.intro rfl trivial))))) (w_md_clear_J171 C p1  ih hK (x2) (v4_5) (v5_5) ((1 : Int32)) M)
set_option maxHeartbeats 4000000 in
set_option maxRecDepth 20000 in
theorem w_md_clear_J11 {z : ZT} {l : Launch} {g : GG} {b : Nat} (C : Cx z l g (wM b) (rmd 2) cX12_clear 7 RX12 (some .int)) (p1 : Int32)  (s0 : Int32) (M : Mem) : XG z g (wM b) 7 (ZQ z g (wM b) finM) 0 0 11 [some (.ref ((wM b).2.2.2 + 0)), some (.int p1), none, none, none, none, none] [.int s0, .ref ((wM b).2.2.2 + 0)] M (md_clear_J11 p1 s0 M) := by
  rw [md_clear_J11]
  refine x_putI C fl_X12_59 cl_11 fint_11_0 nM0 kM0 fM0_0 dX12_clear_11 ?_
  refine x_ltM (fun M1 => ?_)
  refine x_aloadn C dX12_clear_14 rfl ?_
  refine x_getI C fl_X12_59 cl_11 nM0 kM0 fM0_0 dX12_clear_15 ?_
  refine x_ifle C dX12_clear_18 (tgt := 23) (by decide) (fun _h => ?_) (fun _h => ?_)
  · refine x_iconst C dX12_clear_23 (v := (0 : Int32)) (by decide) ?_
    refine x_istoren C dX12_clear_24 (L' := [some (.ref ((wM b).2.2.2 + 0)), some (.int p1), some (.int (0 : Int32)), none, none, none, none]) (ltb rfl) rfl ?_
    refine x_wk (L' := [some (.ref ((wM b).2.2.2 + 0)), some (.int p1), some (.int (0 : Int32)), none, none, none, none]) (And.intro rfl (And.intro rfl (And.intro rfl trivial))) (w_md_clear_L25 C p1   (fun M5 => ?_) FU ((0 : Int32)) M1)
    refine x_iconst C dX12_clear_52 (v := (0 : Int32)) (by decide) ?_
    refine x_istoren C dX12_clear_53 (L' := [some (.ref ((wM b).2.2.2 + 0)), some (.int p1), some (.int (0 : Int32)), none, none, none, none]) (ltb rfl) rfl ?_
    refine x_iconst C dX12_clear_54 (v := (1 : Int32)) (by decide) ?_
    refine x_istoren C dX12_clear_55 (L' := [some (.ref ((wM b).2.2.2 + 0)), some (.int p1), some (.int (0 : Int32)), some (.int (1 : Int32)), none, none, none]) (ltb rfl) rfl ?_
    refine x_wk (L' := [some (.ref ((wM b).2.2.2 + 0)), some (.int p1), some (.int (0 : Int32)), some (.int (1 : Int32)), none, none, none]) (And.intro rfl (And.intro rfl (And.intro rfl (And.intro rfl trivial)))) (w_md_clear_L56 C p1   (fun v2_8 M10 => ?_) FU ((0 : Int32)) ((1 : Int32)) M5)
    refine x_iloadn C dX12_clear_271 (x := p1) rfl ?_
    refine x_iconst C dX12_clear_272 (v := (-1 : Int32)) (by decide) ?_
    refine x_icmpne C dX12_clear_273 (tgt := 280) (by decide) (fun _h => ?_) (fun _h => ?_)
    · refine x_iconst C dX12_clear_280 (v := (-1 : Int32)) (by decide) ?_
      exact x_iret C dX12_clear_281 rfl
    · refine x_iloadn C dX12_clear_276 (x := v2_8) rfl ?_
      refine x_goto C dX12_clear_277 (tgt := 281) (by decide) ?_
      exact x_iret C dX12_clear_281 rfl
  · refine x_iconst C dX12_clear_21 (v := (0 : Int32)) (by decide) ?_
    exact x_iret C dX12_clear_22 rfl
set_option maxHeartbeats 4000000 in
set_option maxRecDepth 20000 in
theorem c_md_clear {l : Launch} {g : GG} {b : Nat} (p1 : Int32) (M : Mem) : CT l g (wM b) (rmd 2) yX12_clear cX12_clear 7 (some .int) [.ref ((wM b).2.2.2 + 0), .int p1] M finM (md_clear p1 M) := by
  refine CT.of rfl (Nat.le_of_ble_eq_true rfl) (catc rfl (catc rfl cat0)) (fun z C => ?_)
  have C : Cx z l g (wM b) (rmd 2) cX12_clear 7 RX12 (some .int) := C
  refine x_wk (L' := [some (.ref ((wM b).2.2.2 + 0)), some (.int p1), none, none, none, none, none]) (And.intro rfl (And.intro rfl trivial)) ?_
  rw [md_clear]
  refine x_aloadn C dX12_clear_0 rfl ?_
  refine x_iloadn C dX12_clear_1 (x := p1) rfl ?_
  refine x_iconst C dX12_clear_2 (v := (-1 : Int32)) (by decide) ?_
  refine x_icmpge C dX12_clear_3 (tgt := 10) (by decide) (fun _h => ?_) (fun _h => ?_)
  · refine x_iconst C dX12_clear_10 (v := (0 : Int32)) (by decide) ?_
    exact x_wk (L' := [some (.ref ((wM b).2.2.2 + 0)), some (.int p1), none, none, none, none, none]) (And.intro rfl (And.intro rfl trivial)) (w_md_clear_J11 C p1   ((0 : Int32)) M)
  · refine x_iconst C dX12_clear_6 (v := (1 : Int32)) (by decide) ?_
    refine x_goto C dX12_clear_7 (tgt := 11) (by decide) ?_
    exact x_wk (L' := [some (.ref ((wM b).2.2.2 + 0)), some (.int p1), none, none, none, none, none]) (And.intro rfl (And.intro rfl trivial)) (w_md_clear_J11 C p1   ((1 : Int32)) M)
def md_pullersAt_L23 (p1 : Int32) (p2 : Int32) (y3 : Int32) (M : Mem) (K : Int32 → Option Int32) : Nat → Int32 → Int32 → Option Int32
  | 0, _, _ => none
  | fu + 1, x4, x5 => (if x5 < (M 1 1) then (md_isOf (y3) (x5) M).bind fun v2 => (if v2 = 0 then md_pullersAt_L23 p1 p2 y3 M K fu (x4) ((x5 + (1 : Int32))) else (md_forceOf (x5) M).bind fun v3 => (if 0 < v3 then md_pullersAt_L23 p1 p2 y3 M K fu ((x4 ||| ((1 : Int32) <<< (x5 &&& 31)))) ((x5 + (1 : Int32))) else md_pullersAt_L23 p1 p2 y3 M K fu (x4) ((x5 + (1 : Int32))))) else K (x4))
def md_pullersAt_J16 (p1 : Int32) (p2 : Int32) (s0 : Int32) (M : Mem) : Option Int32 := md_pullersAt_L23 p1 p2 (s0) M (fun v4_3 => some (v4_3)) FU ((0 : Int32)) ((0 : Int32))
def md_pullersAt (p1 : Int32) (p2 : Int32) (M : Mem) : Option Int32 := (if p2 = 0 then md_pullersAt_J16 p1 p2 (p1) M else (md_everybody M).bind fun v1 => md_pullersAt_J16 p1 p2 ((v1 &&& (p1 ^^^ (-1 : Int32)))) M)
set_option maxHeartbeats 4000000 in
set_option maxRecDepth 20000 in
theorem w_md_pullersAt_L23 {z : ZT} {l : Launch} {g : GG} {b : Nat} (C : Cx z l g (wM b) (rmd 3) cX12_pullersAt 6 RX12 (some .int)) (p1 : Int32) (p2 : Int32) (y3 : Int32) (M : Mem) {K : Int32 → Option Int32} (hK : ∀ (x4 : Int32) , XG z g (wM b) 6 (ZQ z g (wM b) (finI M)) 0 0 72 [none, none, none, none, some (.int x4), none] [] M (K x4)) : ∀ (fu : Nat) (x4 : Int32) (x5 : Int32), XG z g (wM b) 6 (ZQ z g (wM b) (finI M)) 0 0 23 [some (.ref ((wM b).2.2.2 + 0)), none, none, some (.int y3), some (.int x4), some (.int x5)] [] M (md_pullersAt_L23 p1 p2 y3 M K fu x4 x5) := by
  intro fu
  induction fu with
  | zero => intro x4 x5; exact x_none
  | succ fu ih =>
    intro x4 x5
    rw [md_pullersAt_L23]
    refine x_iload C dX12_pullersAt_23 (x := x5) rfl ?_
    refine x_aloadn C dX12_pullersAt_25 rfl ?_
    refine x_getR C fl_X12_7 cl_11 (1) nM0 kM0 fM0_1 dX12_pullersAt_26 ?_
    refine x_iconst C dX12_pullersAt_29 (v := (1 : Int32)) (by decide) ?_
    refine x_ialdj C nM1 kM1 (j := 1) (by decide) (by decide) dX12_pullersAt_30 ?_
    refine x_icmpge C dX12_pullersAt_31 (tgt := 72) (by decide) (fun _h => ?_) (fun _h => ?_)
    · exact x_wk (L' := [none, none, none, none, some (.int x4), none]) (And.intro rfl trivial) (hK (x4))
    · refine x_iloadn C dX12_pullersAt_34 (x := y3) rfl ?_
      refine x_iload C dX12_pullersAt_35 (x := x5) rfl ?_
      refine x_Si (st := []) C (c_md_isOf  (y3) (x5) M) lk_X12_70 rfl rfl (Nat.le_of_ble_eq_true rfl) (rmok_d (by decide) (by decide)) ⟨Nat.zero_le _, Nat.zero_le _⟩ dX12_pullersAt_37 (fun v2 => ?_)
      refine x_ifeq C dX12_pullersAt_40 (tgt := 62) (by decide) (fun _h => ?_) (fun _h => ?_)
      · refine x_iload C dX12_pullersAt_62 (x := x4) rfl ?_
        refine x_istore C dX12_pullersAt_64 (L' := [some (.ref ((wM b).2.2.2 + 0)), none, none, some (.int y3), some (.int x4), some (.int x5)]) (ltb rfl) rfl ?_
        refine x_iinc C dX12_pullersAt_66 (v := (x5 + (1 : Int32))) rfl rfl (L' := [some (.ref ((wM b).2.2.2 + 0)), none, none, some (.int y3), some (.int x4), some (.int (x5 + (1 : Int32)))]) rfl ?_
        refine x_goto C dX12_pullersAt_69 (tgt := 23) (by decide) ?_
        exact x_wk (L' := [some (.ref ((wM b).2.2.2 + 0)), none, none, some (.int y3), some (.int x4), some (.int (x5 + (1 : Int32)))]) (And.intro rfl (And.intro rfl (And.intro rfl (And.intro rfl trivial)))) (ih (x4) ((x5 + (1 : Int32))))
      · refine x_aloadn C dX12_pullersAt_43 rfl ?_
        refine x_iload C dX12_pullersAt_44 (x := x5) rfl ?_
        refine x_Vi (st := []) C (c_md_forceOf  (x5) M) lk_X12_74 nM0 kM0 ⟨_, _, rfl⟩ rfl rfl (Nat.le_of_ble_eq_true rfl) (rmok_d (by decide) (by decide)) ⟨Nat.zero_le _, Nat.zero_le _⟩ dX12_pullersAt_46 (fun v3 => ?_)
        refine x_ifle C dX12_pullersAt_49 (tgt := 62) (by decide) (fun _h => ?_) (fun _h => ?_)
        · refine x_iload C dX12_pullersAt_62 (x := x4) rfl ?_
          refine x_istore C dX12_pullersAt_64 (L' := [some (.ref ((wM b).2.2.2 + 0)), none, none, some (.int y3), some (.int x4), some (.int x5)]) (ltb rfl) rfl ?_
          refine x_iinc C dX12_pullersAt_66 (v := (x5 + (1 : Int32))) rfl rfl (L' := [some (.ref ((wM b).2.2.2 + 0)), none, none, some (.int y3), some (.int x4), some (.int (x5 + (1 : Int32)))]) rfl ?_
          refine x_goto C dX12_pullersAt_69 (tgt := 23) (by decide) ?_
          exact x_wk (L' := [some (.ref ((wM b).2.2.2 + 0)), none, none, some (.int y3), some (.int x4), some (.int (x5 + (1 : Int32)))]) (And.intro rfl (And.intro rfl (And.intro rfl (And.intro rfl trivial)))) (ih (x4) ((x5 + (1 : Int32))))
        · refine x_iload C dX12_pullersAt_52 (x := x4) rfl ?_
          refine x_iconst C dX12_pullersAt_54 (v := (1 : Int32)) (by decide) ?_
          refine x_iload C dX12_pullersAt_55 (x := x5) rfl ?_
          refine x_ishl C dX12_pullersAt_57 ?_
          refine x_ior C dX12_pullersAt_58 ?_
          refine x_goto C dX12_pullersAt_59 (tgt := 64) (by decide) ?_
          refine x_istore C dX12_pullersAt_64 (L' := [some (.ref ((wM b).2.2.2 + 0)), none, none, some (.int y3), some (.int (x4 ||| ((1 : Int32) <<< (x5 &&& 31)))), some (.int x5)]) (ltb rfl) rfl ?_
          refine x_iinc C dX12_pullersAt_66 (v := (x5 + (1 : Int32))) rfl rfl (L' := [some (.ref ((wM b).2.2.2 + 0)), none, none, some (.int y3), some (.int (x4 ||| ((1 : Int32) <<< (x5 &&& 31)))), some (.int (x5 + (1 : Int32)))]) rfl ?_
          refine x_goto C dX12_pullersAt_69 (tgt := 23) (by decide) ?_
          exact x_wk (L' := [some (.ref ((wM b).2.2.2 + 0)), none, none, some (.int y3), some (.int (x4 ||| ((1 : Int32) <<< (x5 &&& 31)))), some (.int (x5 + (1 : Int32)))]) (And.intro rfl (And.intro rfl (And.intro rfl (And.intro rfl trivial)))) (ih ((x4 ||| ((1 : Int32) <<< (x5 &&& 31)))) ((x5 + (1 : Int32))))
set_option maxHeartbeats 4000000 in
set_option maxRecDepth 20000 in
theorem w_md_pullersAt_J16 {z : ZT} {l : Launch} {g : GG} {b : Nat} (C : Cx z l g (wM b) (rmd 3) cX12_pullersAt 6 RX12 (some .int)) (p1 : Int32) (p2 : Int32) (M : Mem) (s0 : Int32) : XG z g (wM b) 6 (ZQ z g (wM b) (finI M)) 0 0 16 [some (.ref ((wM b).2.2.2 + 0)), none, none, none, none, none] [.int s0] M (md_pullersAt_J16 p1 p2 s0 M) := by
  rw [md_pullersAt_J16]
  refine x_istoren C dX12_pullersAt_16 (L' := [some (.ref ((wM b).2.2.2 + 0)), none, none, some (.int s0), none, none]) (ltb rfl) rfl ?_
  refine x_iconst C dX12_pullersAt_17 (v := (0 : Int32)) (by decide) ?_
  refine x_istore C dX12_pullersAt_18 (L' := [some (.ref ((wM b).2.2.2 + 0)), none, none, some (.int s0), some (.int (0 : Int32)), none]) (ltb rfl) rfl ?_
  refine x_iconst C dX12_pullersAt_20 (v := (0 : Int32)) (by decide) ?_
  refine x_istore C dX12_pullersAt_21 (L' := [some (.ref ((wM b).2.2.2 + 0)), none, none, some (.int s0), some (.int (0 : Int32)), some (.int (0 : Int32))]) (ltb rfl) rfl ?_
  refine x_wk (L' := [some (.ref ((wM b).2.2.2 + 0)), none, none, some (.int s0), some (.int (0 : Int32)), some (.int (0 : Int32))]) (And.intro rfl (And.intro rfl (And.intro rfl (And.intro rfl trivial)))) (w_md_pullersAt_L23 C p1 p2 (s0) M (fun v4_3 => ?_) FU ((0 : Int32)) ((0 : Int32)) )
  refine x_iload C dX12_pullersAt_72 (x := v4_3) rfl ?_
  exact x_iret C dX12_pullersAt_74 rfl
set_option maxHeartbeats 4000000 in
set_option maxRecDepth 20000 in
theorem c_md_pullersAt {l : Launch} {g : GG} {b : Nat} (p1 : Int32) (p2 : Int32) (M : Mem) : CT l g (wM b) (rmd 3) yX12_pullersAt cX12_pullersAt 6 (some .int) [.ref ((wM b).2.2.2 + 0), .int p1, .int p2] M (finI M) (md_pullersAt p1 p2 M) := by
  refine CT.of rfl (Nat.le_of_ble_eq_true rfl) (catc rfl (catc rfl (catc rfl cat0))) (fun z C => ?_)
  have C : Cx z l g (wM b) (rmd 3) cX12_pullersAt 6 RX12 (some .int) := C
  refine x_wk (L' := [some (.ref ((wM b).2.2.2 + 0)), some (.int p1), some (.int p2), none, none, none]) (And.intro rfl (And.intro rfl (And.intro rfl trivial))) ?_
  rw [md_pullersAt]
  refine x_iloadn C dX12_pullersAt_0 (x := p2) rfl ?_
  refine x_ifne C dX12_pullersAt_1 (tgt := 8) (by decide) (fun _h => ?_) (fun _h => ?_)
  · refine x_aloadn C dX12_pullersAt_8 rfl ?_
    refine x_Vi (st := []) C (c_md_everybody   M) lk_X12_208 nM0 kM0 ⟨_, _, rfl⟩ rfl rfl (Nat.le_of_ble_eq_true rfl) (rmok_d (by decide) (by decide)) ⟨Nat.zero_le _, Nat.zero_le _⟩ dX12_pullersAt_9 (fun v1 => ?_)
    refine x_iloadn C dX12_pullersAt_12 (x := p1) rfl ?_
    refine x_iconst C dX12_pullersAt_13 (v := (-1 : Int32)) (by decide) ?_
    refine x_ixor C dX12_pullersAt_14 ?_
    refine x_iand C dX12_pullersAt_15 ?_
    exact x_wk (L' := [some (.ref ((wM b).2.2.2 + 0)), none, none, none, none, none]) (And.intro rfl trivial) (w_md_pullersAt_J16 C p1 p2  M  ((v1 &&& (p1 ^^^ (-1 : Int32)))))
  · refine x_iloadn C dX12_pullersAt_4 (x := p1) rfl ?_
    refine x_goto C dX12_pullersAt_5 (tgt := 16) (by decide) ?_
    exact x_wk (L' := [some (.ref ((wM b).2.2.2 + 0)), none, none, none, none, none]) (And.intro rfl trivial) (w_md_pullersAt_J16 C p1 p2  M  (p1))
def md_isLess_J22 (p1 : Int32) (p2 : Int32) (p3 : Int32) (p4 : Int32) (p5 : Int32) (x6 : Int32) (s0 : Int32) (M : Mem) : Option Int32 := (if x6 < s0 then some ((1 : Int32)) else (if x6 = s0 then (if p1 = 0 then (if p3 < p5 then some ((1 : Int32)) else some ((0 : Int32))) else (if p2 < p4 then some ((1 : Int32)) else some ((0 : Int32)))) else some ((0 : Int32))))
def md_isLess_J9 (p1 : Int32) (p2 : Int32) (p3 : Int32) (p4 : Int32) (p5 : Int32) (s0 : Int32) (M : Mem) : Option Int32 := (if p1 = 0 then md_isLess_J22 p1 p2 p3 p4 p5 (s0) (p4) M else md_isLess_J22 p1 p2 p3 p4 p5 (s0) (p5) M)
def md_isLess (p1 : Int32) (p2 : Int32) (p3 : Int32) (p4 : Int32) (p5 : Int32) (M : Mem) : Option Int32 := (if p1 = 0 then md_isLess_J9 p1 p2 p3 p4 p5 (p2) M else md_isLess_J9 p1 p2 p3 p4 p5 (p3) M)
set_option maxHeartbeats 4000000 in
set_option maxRecDepth 20000 in
theorem w_md_isLess_J22 {z : ZT} {l : Launch} {g : GG} {b : Nat} (C : Cx z l g (wM b) (rmd 1) cX12_isLess 8 RX12 (some .boolean)) (p1 : Int32) (p2 : Int32) (p3 : Int32) (p4 : Int32) (p5 : Int32) (M : Mem) (x6 : Int32) (s0 : Int32) : XG z g (wM b) 8 (ZQ z g (wM b) (finI M)) 0 0 22 [none, some (.int p1), some (.int p2), some (.int p3), some (.int p4), some (.int p5), some (.int x6), none] [.int s0] M (md_isLess_J22 p1 p2 p3 p4 p5 x6 s0 M) := by
  rw [md_isLess_J22]
  refine x_istore C dX12_isLess_22 (L' := [none, some (.int p1), some (.int p2), some (.int p3), some (.int p4), some (.int p5), some (.int x6), some (.int s0)]) (ltb rfl) rfl ?_
  refine x_iload C dX12_isLess_24 (x := x6) rfl ?_
  refine x_iload C dX12_isLess_26 (x := s0) rfl ?_
  refine x_icmplt C dX12_isLess_28 (tgt := 57) (by decide) (fun _h => ?_) (fun _h => ?_)
  · refine x_iconst C dX12_isLess_57 (v := (1 : Int32)) (by decide) ?_
    refine x_goto C dX12_isLess_58 (tgt := 62) (by decide) ?_
    exact x_zret C dX12_isLess_62 rfl rfl
  · refine x_iload C dX12_isLess_31 (x := x6) rfl ?_
    refine x_iload C dX12_isLess_33 (x := s0) rfl ?_
    refine x_icmpne C dX12_isLess_35 (tgt := 61) (by decide) (fun _h => ?_) (fun _h => ?_)
    · refine x_iconst C dX12_isLess_61 (v := (0 : Int32)) (by decide) ?_
      exact x_zret C dX12_isLess_62 rfl rfl
    · refine x_iloadn C dX12_isLess_38 (x := p1) rfl ?_
      refine x_ifeq C dX12_isLess_39 (tgt := 51) (by decide) (fun _h => ?_) (fun _h => ?_)
      · refine x_iloadn C dX12_isLess_51 (x := p3) rfl ?_
        refine x_iload C dX12_isLess_52 (x := p5) rfl ?_
        refine x_icmpge C dX12_isLess_54 (tgt := 61) (by decide) (fun _h => ?_) (fun _h => ?_)
        · refine x_iconst C dX12_isLess_61 (v := (0 : Int32)) (by decide) ?_
          exact x_zret C dX12_isLess_62 rfl rfl
        · refine x_iconst C dX12_isLess_57 (v := (1 : Int32)) (by decide) ?_
          refine x_goto C dX12_isLess_58 (tgt := 62) (by decide) ?_
          exact x_zret C dX12_isLess_62 rfl rfl
      · refine x_iloadn C dX12_isLess_42 (x := p2) rfl ?_
        refine x_iload C dX12_isLess_43 (x := p4) rfl ?_
        refine x_icmpge C dX12_isLess_45 (tgt := 61) (by decide) (fun _h => ?_) (fun _h => ?_)
        · refine x_iconst C dX12_isLess_61 (v := (0 : Int32)) (by decide) ?_
          exact x_zret C dX12_isLess_62 rfl rfl
        · refine x_goto C dX12_isLess_48 (tgt := 57) (by decide) ?_
          refine x_iconst C dX12_isLess_57 (v := (1 : Int32)) (by decide) ?_
          refine x_goto C dX12_isLess_58 (tgt := 62) (by decide) ?_
          exact x_zret C dX12_isLess_62 rfl rfl
set_option maxHeartbeats 4000000 in
set_option maxRecDepth 20000 in
theorem w_md_isLess_J9 {z : ZT} {l : Launch} {g : GG} {b : Nat} (C : Cx z l g (wM b) (rmd 1) cX12_isLess 8 RX12 (some .boolean)) (p1 : Int32) (p2 : Int32) (p3 : Int32) (p4 : Int32) (p5 : Int32) (M : Mem) (s0 : Int32) : XG z g (wM b) 8 (ZQ z g (wM b) (finI M)) 0 0 9 [none, some (.int p1), some (.int p2), some (.int p3), some (.int p4), some (.int p5), none, none] [.int s0] M (md_isLess_J9 p1 p2 p3 p4 p5 s0 M) := by
  rw [md_isLess_J9]
  refine x_istore C dX12_isLess_9 (L' := [none, some (.int p1), some (.int p2), some (.int p3), some (.int p4), some (.int p5), some (.int s0), none]) (ltb rfl) rfl ?_
  refine x_iloadn C dX12_isLess_11 (x := p1) rfl ?_
  refine x_ifeq C dX12_isLess_12 (tgt := 20) (by decide) (fun _h => ?_) (fun _h => ?_)
  · refine x_iload C dX12_isLess_20 (x := p4) rfl ?_
    exact x_wk (L' := [none, some (.int p1), some (.int p2), some (.int p3), some (.int p4), some (.int p5), some (.int s0), none]) (And.intro rfl (And.intro rfl (And.intro rfl (And.intro rfl (And.intro rfl (And.intro rfl trivial)))))) (w_md_isLess_J22 C p1 p2 p3 p4 p5  M (s0) (p4))
  · refine x_iload C dX12_isLess_15 (x := p5) rfl ?_
    refine x_goto C dX12_isLess_17 (tgt := 22) (by decide) ?_
    exact x_wk (L' := [none, some (.int p1), some (.int p2), some (.int p3), some (.int p4), some (.int p5), some (.int s0), none]) (And.intro rfl (And.intro rfl (And.intro rfl (And.intro rfl (And.intro rfl (And.intro rfl trivial)))))) (w_md_isLess_J22 C p1 p2 p3 p4 p5  M (s0) (p5))
set_option maxHeartbeats 4000000 in
set_option maxRecDepth 20000 in
theorem c_md_isLess {l : Launch} {g : GG} {b : Nat} (p1 : Int32) (p2 : Int32) (p3 : Int32) (p4 : Int32) (p5 : Int32) (M : Mem) : CT l g (wM b) (rmd 1) yX12_isLess cX12_isLess 8 (some .boolean) [.ref ((wM b).2.2.2 + 0), .int p1, .int p2, .int p3, .int p4, .int p5] M (finI M) (md_isLess p1 p2 p3 p4 p5 M) := by
  refine CT.of rfl (Nat.le_of_ble_eq_true rfl) (catc rfl (catc rfl (catc rfl (catc rfl (catc rfl (catc rfl cat0)))))) (fun z C => ?_)
  have C : Cx z l g (wM b) (rmd 1) cX12_isLess 8 RX12 (some .boolean) := C
  refine x_wk (L' := [some (.ref ((wM b).2.2.2 + 0)), some (.int p1), some (.int p2), some (.int p3), some (.int p4), some (.int p5), none, none]) (And.intro rfl (And.intro rfl (And.intro rfl (And.intro rfl (And.intro rfl (And.intro rfl trivial)))))) ?_
  rw [md_isLess]
  refine x_iloadn C dX12_isLess_0 (x := p1) rfl ?_
  refine x_ifeq C dX12_isLess_1 (tgt := 8) (by decide) (fun _h => ?_) (fun _h => ?_)
  · refine x_iloadn C dX12_isLess_8 (x := p2) rfl ?_
    exact x_wk (L' := [none, some (.int p1), some (.int p2), some (.int p3), some (.int p4), some (.int p5), none, none]) (And.intro rfl (And.intro rfl (And.intro rfl (And.intro rfl (And.intro rfl trivial))))) (w_md_isLess_J9 C p1 p2 p3 p4 p5  M  (p2))
  · refine x_iloadn C dX12_isLess_4 (x := p3) rfl ?_
    refine x_goto C dX12_isLess_5 (tgt := 9) (by decide) ?_
    exact x_wk (L' := [none, some (.int p1), some (.int p2), some (.int p3), some (.int p4), some (.int p5), none, none]) (And.intro rfl (And.intro rfl (And.intro rfl (And.intro rfl (And.intro rfl trivial))))) (w_md_isLess_J9 C p1 p2 p3 p4 p5  M  (p3))
