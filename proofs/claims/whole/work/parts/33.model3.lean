def md_behind (p1 : Int32) (p2 : Int32) (M : Mem) : Option (Int32 × Mem) := (if p2 < (1024 : Int32) then (md_pullersAt ((p1 / (2 : Int32))) ((irem p1 (2 : Int32))) M).bind fun v1 => bnd2 (md_mayCross ((p1 / (2 : Int32))) ((irem p1 (2 : Int32))) (p2) (v1) M) fun v3 M2 => (if v3 = 0 then some ((-1 : Int32), M2) else some (((((2 : Int32) * ((p1 / (2 : Int32)) ^^^ p2)) + (1 : Int32)) - (irem p1 (2 : Int32))), M2)) else (md_isBeing ((p2 - (1024 : Int32))) M).bind fun v4 => (if v4 = 0 then some ((-1 : Int32), M) else (md_maySwim ((p1 / (2 : Int32))) ((p2 - (1024 : Int32))) M).bind fun v5 => (if v5 = 0 then some ((-1 : Int32), M) else (md_stream M).bind fun v6 => lt1 (wr M 0 17 ((M 1 7) + v6)) fun M7 => some ((((2 : Int32) * ((p1 / (2 : Int32)) ^^^ ((1 : Int32) <<< ((p2 - (1024 : Int32)) &&& 31)))) + (irem p1 (2 : Int32))), M7))))
set_option maxHeartbeats 4000000 in
set_option maxRecDepth 20000 in
theorem c_md_behind {l : Launch} {g : GG} {b : Nat} (p1 : Int32) (p2 : Int32) (M : Mem) : CT l g (wM b) (rmd 5) yX12_behind cX12_behind 6 (some .int) [.ref ((wM b).2.2.2 + 0), .int p1, .int p2] M finM (md_behind p1 p2 M) := by
  refine CT.of rfl (Nat.le_of_ble_eq_true rfl) (catc rfl (catc rfl (catc rfl cat0))) (fun z C => ?_)
  have C : Cx z l g (wM b) (rmd 5) cX12_behind 6 RX12 (some .int) := C
  refine x_wk (L' := [some (.ref ((wM b).2.2.2 + 0)), some (.int p1), some (.int p2), none, none, none]) (And.intro rfl (And.intro rfl (And.intro rfl trivial))) ?_
  rw [md_behind]
  refine x_iloadn C dX12_behind_0 (x := p1) rfl ?_
  refine x_iconst C dX12_behind_1 (v := (2 : Int32)) (by decide) ?_
  refine x_idiv C dX12_behind_2 (by decide) ?_
  refine x_istoren C dX12_behind_3 (L' := [some (.ref ((wM b).2.2.2 + 0)), some (.int p1), some (.int p2), some (.int (p1 / (2 : Int32))), none, none]) (ltb rfl) rfl ?_
  refine x_iloadn C dX12_behind_4 (x := p1) rfl ?_
  refine x_iconst C dX12_behind_5 (v := (2 : Int32)) (by decide) ?_
  refine x_irem C dX12_behind_6 (by decide) ?_
  refine x_istore C dX12_behind_7 (L' := [some (.ref ((wM b).2.2.2 + 0)), some (.int p1), some (.int p2), some (.int (p1 / (2 : Int32))), some (.int (irem p1 (2 : Int32))), none]) (ltb rfl) rfl ?_
  refine x_iloadn C dX12_behind_9 (x := p2) rfl ?_
  refine x_sipush C dX12_behind_10 (v := (1024 : Int32)) (by decide) ?_
  refine x_icmplt C dX12_behind_13 (tgt := 72) (by decide) (fun _h => ?_) (fun _h => ?_)
  · refine x_aloadn C dX12_behind_72 rfl ?_
    refine x_iloadn C dX12_behind_73 (x := (p1 / (2 : Int32))) rfl ?_
    refine x_iload C dX12_behind_74 (x := (irem p1 (2 : Int32))) rfl ?_
    refine x_iloadn C dX12_behind_76 (x := p2) rfl ?_
    refine x_aloadn C dX12_behind_77 rfl ?_
    refine x_iloadn C dX12_behind_78 (x := (p1 / (2 : Int32))) rfl ?_
    refine x_iload C dX12_behind_79 (x := (irem p1 (2 : Int32))) rfl ?_
    refine x_Vi (st := [.int p2, .int (irem p1 (2 : Int32)), .int (p1 / (2 : Int32)), .ref ((wM b).2.2.2 + 0)]) C (c_md_pullersAt  ((p1 / (2 : Int32))) ((irem p1 (2 : Int32))) M) lk_X12_248 nM0 kM0 ⟨_, _, rfl⟩ rfl rfl (Nat.le_of_ble_eq_true rfl) (rmok_d (by decide) (by decide)) ⟨Nat.zero_le _, Nat.zero_le _⟩ dX12_behind_81 (fun v1 => ?_)
    refine x_Vm (st := []) C (c_md_mayCross  ((p1 / (2 : Int32))) ((irem p1 (2 : Int32))) (p2) (v1) M) lk_X12_232 nM0 kM0 ⟨_, _, rfl⟩ rfl rfl (Nat.le_of_ble_eq_true rfl) (rmok_d (by decide) (by decide)) ⟨Nat.zero_le _, Nat.zero_le _⟩ dX12_behind_84 (fun v3 M2 => ?_)
    refine x_ifne C dX12_behind_87 (tgt := 92) (by decide) (fun _h => ?_) (fun _h => ?_)
    · refine x_iconst C dX12_behind_92 (v := (2 : Int32)) (by decide) ?_
      refine x_iloadn C dX12_behind_93 (x := (p1 / (2 : Int32))) rfl ?_
      refine x_iloadn C dX12_behind_94 (x := p2) rfl ?_
      refine x_ixor C dX12_behind_95 ?_
      refine x_imul C dX12_behind_96 ?_
      refine x_iconst C dX12_behind_97 (v := (1 : Int32)) (by decide) ?_
      refine x_iadd C dX12_behind_98 ?_
      refine x_iload C dX12_behind_99 (x := (irem p1 (2 : Int32))) rfl ?_
      refine x_isub C dX12_behind_101 ?_
      exact x_iret C dX12_behind_102 rfl
    · refine x_iconst C dX12_behind_90 (v := (-1 : Int32)) (by decide) ?_
      exact x_iret C dX12_behind_91 rfl
  · refine x_iloadn C dX12_behind_16 (x := p2) rfl ?_
    refine x_sipush C dX12_behind_17 (v := (1024 : Int32)) (by decide) ?_
    refine x_isub C dX12_behind_20 ?_
    refine x_istore C dX12_behind_21 (L' := [some (.ref ((wM b).2.2.2 + 0)), some (.int p1), some (.int p2), some (.int (p1 / (2 : Int32))), some (.int (irem p1 (2 : Int32))), some (.int (p2 - (1024 : Int32)))]) (ltb rfl) rfl ?_
    refine x_aloadn C dX12_behind_23 rfl ?_
    refine x_iload C dX12_behind_24 (x := (p2 - (1024 : Int32))) rfl ?_
    refine x_Vi (st := []) C (c_md_isBeing  ((p2 - (1024 : Int32))) M) lk_X12_239 nM0 kM0 ⟨_, _, rfl⟩ rfl rfl (Nat.le_of_ble_eq_true rfl) (rmok_d (by decide) (by decide)) ⟨Nat.zero_le _, Nat.zero_le _⟩ dX12_behind_26 (fun v4 => ?_)
    refine x_ifeq C dX12_behind_29 (tgt := 42) (by decide) (fun _h => ?_) (fun _h => ?_)
    · refine x_iconst C dX12_behind_42 (v := (-1 : Int32)) (by decide) ?_
      exact x_iret C dX12_behind_43 rfl
    · refine x_aloadn C dX12_behind_32 rfl ?_
      refine x_iloadn C dX12_behind_33 (x := (p1 / (2 : Int32))) rfl ?_
      refine x_iload C dX12_behind_34 (x := (p2 - (1024 : Int32))) rfl ?_
      refine x_Vi (st := []) C (c_md_maySwim  ((p1 / (2 : Int32))) ((p2 - (1024 : Int32))) M) lk_X12_242 nM0 kM0 ⟨_, _, rfl⟩ rfl rfl (Nat.le_of_ble_eq_true rfl) (rmok_d (by decide) (by decide)) ⟨Nat.zero_le _, Nat.zero_le _⟩ dX12_behind_36 (fun v5 => ?_)
      refine x_ifne C dX12_behind_39 (tgt := 44) (by decide) (fun _h => ?_) (fun _h => ?_)
      · refine x_aloadn C dX12_behind_44 rfl ?_
        refine x_aloadn C dX12_behind_45 rfl ?_
        refine x_getR C fl_X12_7 cl_11 (1) nM0 kM0 fM0_1 dX12_behind_46 ?_
        refine x_bipush C dX12_behind_49 (v := (7 : Int32)) (by decide) ?_
        refine x_ialdj C nM1 kM1 (j := 7) (by decide) (by decide) dX12_behind_51 ?_
        refine x_aloadn C dX12_behind_52 rfl ?_
        refine x_Vi (st := [.int (M 1 7), .ref ((wM b).2.2.2 + 0)]) C (c_md_stream   M) lk_X12_78 nM0 kM0 ⟨_, _, rfl⟩ rfl rfl (Nat.le_of_ble_eq_true rfl) (rmok_d (by decide) (by decide)) ⟨Nat.zero_le _, Nat.zero_le _⟩ dX12_behind_53 (fun v6 => ?_)
        refine x_iadd C dX12_behind_56 ?_
        refine x_putI C fl_X12_226 cl_11 fint_11_17 nM0 kM0 fM0_17 dX12_behind_57 ?_
        refine x_ltM (fun M7 => ?_)
        refine x_iconst C dX12_behind_60 (v := (2 : Int32)) (by decide) ?_
        refine x_iloadn C dX12_behind_61 (x := (p1 / (2 : Int32))) rfl ?_
        refine x_iconst C dX12_behind_62 (v := (1 : Int32)) (by decide) ?_
        refine x_iload C dX12_behind_63 (x := (p2 - (1024 : Int32))) rfl ?_
        refine x_ishl C dX12_behind_65 ?_
        refine x_ixor C dX12_behind_66 ?_
        refine x_imul C dX12_behind_67 ?_
        refine x_iload C dX12_behind_68 (x := (irem p1 (2 : Int32))) rfl ?_
        refine x_iadd C dX12_behind_70 ?_
        exact x_iret C dX12_behind_71 rfl
      · refine x_iconst C dX12_behind_42 (v := (-1 : Int32)) (by decide) ?_
        exact x_iret C dX12_behind_43 rfl
def md_tries (p1 : Int32) (p2 : Int32) (p3 : Int32) (M : Mem) : Option (Int32 × Mem) := bnd2 (md_behind (p1) (p2) M) fun v2 M1 => (if v2 = (-1 : Int32) then some ((0 : Int32), M1) else chk (inb v2 2048) ((if (M1 7 v2.toNatClampNeg) = (100000000 : Int32) then some ((0 : Int32), M1) else chk (inb v2 2048) (chk (inb v2 2048) (chk (inb p1 2048) (chk (inb p1 2048) ((md_isLess (p3) (((M1 6 v2.toNatClampNeg) + (M1 0 17))) (((M1 7 v2.toNatClampNeg) + (1 : Int32))) ((M1 6 p1.toNatClampNeg)) ((M1 7 p1.toNatClampNeg)) M1).bind fun v3 => (if v3 = 0 then some ((0 : Int32), M1) else chk (inb v2 2048) (chk (inb p1 2048) (lt1 (wr M1 6 p1.toNatClampNeg ((M1 6 v2.toNatClampNeg) + (M1 0 17))) fun M4 => chk (inb v2 2048) (chk (inb p1 2048) (lt1 (wr M4 7 p1.toNatClampNeg ((M4 7 v2.toNatClampNeg) + (1 : Int32))) fun M5 => some ((1 : Int32), M5)))))))))))))
set_option maxHeartbeats 4000000 in
set_option maxRecDepth 20000 in
theorem c_md_tries {l : Launch} {g : GG} {b : Nat} (p1 : Int32) (p2 : Int32) (p3 : Int32) (M : Mem) : CT l g (wM b) (rmd 6) yX12_tries cX12_tries 5 (some .boolean) [.ref ((wM b).2.2.2 + 0), .int p1, .int p2, .int p3] M finM (md_tries p1 p2 p3 M) := by
  refine CT.of rfl (Nat.le_of_ble_eq_true rfl) (catc rfl (catc rfl (catc rfl (catc rfl cat0)))) (fun z C => ?_)
  have C : Cx z l g (wM b) (rmd 6) cX12_tries 5 RX12 (some .boolean) := C
  refine x_wk (L' := [some (.ref ((wM b).2.2.2 + 0)), some (.int p1), some (.int p2), some (.int p3), none]) (And.intro rfl (And.intro rfl (And.intro rfl (And.intro rfl trivial)))) ?_
  rw [md_tries]
  refine x_aloadn C dX12_tries_0 rfl ?_
  refine x_iloadn C dX12_tries_1 (x := p1) rfl ?_
  refine x_iloadn C dX12_tries_2 (x := p2) rfl ?_
  refine x_Vm (st := []) C (c_md_behind  (p1) (p2) M) lk_X12_260 nM0 kM0 ⟨_, _, rfl⟩ rfl rfl (Nat.le_of_ble_eq_true rfl) (rmok_d (by decide) (by decide)) ⟨Nat.zero_le _, Nat.zero_le _⟩ dX12_tries_3 (fun v2 M1 => ?_)
  refine x_istore C dX12_tries_6 (L' := [some (.ref ((wM b).2.2.2 + 0)), some (.int p1), some (.int p2), some (.int p3), some (.int v2)]) (ltb rfl) rfl ?_
  refine x_iload C dX12_tries_8 (x := v2) rfl ?_
  refine x_iconst C dX12_tries_10 (v := (-1 : Int32)) (by decide) ?_
  refine x_icmpeq C dX12_tries_11 (tgt := 26) (by decide) (fun _h => ?_) (fun _h => ?_)
  · refine x_iconst C dX12_tries_26 (v := (0 : Int32)) (by decide) ?_
    exact x_zret C dX12_tries_27 rfl rfl
  · refine x_aloadn C dX12_tries_14 rfl ?_
    refine x_getR C fl_X12_32 cl_11 (7) nM0 kM0 fM0_15 dX12_tries_15 ?_
    refine x_iload C dX12_tries_18 (x := v2) rfl ?_
    refine x_iald C nM7 kM7 dX12_tries_20 ?_
    refine x_ldc C dX12_tries_21 (v := (100000000 : Int32)) cn_X12_251 ?_
    refine x_icmpne C dX12_tries_23 (tgt := 28) (by decide) (fun _h => ?_) (fun _h => ?_)
    · refine x_aloadn C dX12_tries_28 rfl ?_
      refine x_iloadn C dX12_tries_29 (x := p3) rfl ?_
      refine x_aloadn C dX12_tries_30 rfl ?_
      refine x_getR C fl_X12_29 cl_11 (6) nM0 kM0 fM0_14 dX12_tries_31 ?_
      refine x_iload C dX12_tries_34 (x := v2) rfl ?_
      refine x_iald C nM6 kM6 dX12_tries_36 ?_
      refine x_aloadn C dX12_tries_37 rfl ?_
      refine x_getI C fl_X12_226 cl_11 nM0 kM0 fM0_17 dX12_tries_38 ?_
      refine x_iadd C dX12_tries_41 ?_
      refine x_aloadn C dX12_tries_42 rfl ?_
      refine x_getR C fl_X12_32 cl_11 (7) nM0 kM0 fM0_15 dX12_tries_43 ?_
      refine x_iload C dX12_tries_46 (x := v2) rfl ?_
      refine x_iald C nM7 kM7 dX12_tries_48 ?_
      refine x_iconst C dX12_tries_49 (v := (1 : Int32)) (by decide) ?_
      refine x_iadd C dX12_tries_50 ?_
      refine x_aloadn C dX12_tries_51 rfl ?_
      refine x_getR C fl_X12_29 cl_11 (6) nM0 kM0 fM0_14 dX12_tries_52 ?_
      refine x_iloadn C dX12_tries_55 (x := p1) rfl ?_
      refine x_iald C nM6 kM6 dX12_tries_56 ?_
      refine x_aloadn C dX12_tries_57 rfl ?_
      refine x_getR C fl_X12_32 cl_11 (7) nM0 kM0 fM0_15 dX12_tries_58 ?_
      refine x_iloadn C dX12_tries_61 (x := p1) rfl ?_
      refine x_iald C nM7 kM7 dX12_tries_62 ?_
      refine x_Vi (st := []) C (c_md_isLess  (p3) (((M1 6 v2.toNatClampNeg) + (M1 0 17))) (((M1 7 v2.toNatClampNeg) + (1 : Int32))) ((M1 6 p1.toNatClampNeg)) ((M1 7 p1.toNatClampNeg)) M1) lk_X12_263 nM0 kM0 ⟨_, _, rfl⟩ rfl rfl (Nat.le_of_ble_eq_true rfl) (rmok_d (by decide) (by decide)) ⟨Nat.zero_le _, Nat.zero_le _⟩ dX12_tries_63 (fun v3 => ?_)
      refine x_ifne C dX12_tries_66 (tgt := 71) (by decide) (fun _h => ?_) (fun _h => ?_)
      · refine x_aloadn C dX12_tries_71 rfl ?_
        refine x_getR C fl_X12_29 cl_11 (6) nM0 kM0 fM0_14 dX12_tries_72 ?_
        refine x_iloadn C dX12_tries_75 (x := p1) rfl ?_
        refine x_aloadn C dX12_tries_76 rfl ?_
        refine x_getR C fl_X12_29 cl_11 (6) nM0 kM0 fM0_14 dX12_tries_77 ?_
        refine x_iload C dX12_tries_80 (x := v2) rfl ?_
        refine x_iald C nM6 kM6 dX12_tries_82 ?_
        refine x_aloadn C dX12_tries_83 rfl ?_
        refine x_getI C fl_X12_226 cl_11 nM0 kM0 fM0_17 dX12_tries_84 ?_
        refine x_iadd C dX12_tries_87 ?_
        refine x_iast C nM6 kM6 dX12_tries_88 ?_
        refine x_ltM (fun M4 => ?_)
        refine x_aloadn C dX12_tries_89 rfl ?_
        refine x_getR C fl_X12_32 cl_11 (7) nM0 kM0 fM0_15 dX12_tries_90 ?_
        refine x_iloadn C dX12_tries_93 (x := p1) rfl ?_
        refine x_aloadn C dX12_tries_94 rfl ?_
        refine x_getR C fl_X12_32 cl_11 (7) nM0 kM0 fM0_15 dX12_tries_95 ?_
        refine x_iload C dX12_tries_98 (x := v2) rfl ?_
        refine x_iald C nM7 kM7 dX12_tries_100 ?_
        refine x_iconst C dX12_tries_101 (v := (1 : Int32)) (by decide) ?_
        refine x_iadd C dX12_tries_102 ?_
        refine x_iast C nM7 kM7 dX12_tries_103 ?_
        refine x_ltM (fun M5 => ?_)
        refine x_iconst C dX12_tries_104 (v := (1 : Int32)) (by decide) ?_
        exact x_zret C dX12_tries_105 rfl rfl
      · refine x_iconst C dX12_tries_69 (v := (0 : Int32)) (by decide) ?_
        exact x_zret C dX12_tries_70 rfl rfl
    · refine x_iconst C dX12_tries_26 (v := (0 : Int32)) (by decide) ?_
      exact x_zret C dX12_tries_27 rfl rfl
def md_lowers_J60 (p1 : Int32) (p2 : Int32) (rec : Int32 → Int32 → Int32 → Mem → Option (Int32 × Mem)) (K : Int32 → Mem → Option (Int32 × Mem)) (x4 : Int32) (x6 : Int32) (s0 : Int32) (M : Mem) : Option (Int32 × Mem) := (if x6 = 0 then rec (s0) (((x6 - (1 : Int32)) &&& x4)) ((1 : Int32)) (M) else rec (s0) (((x6 - (1 : Int32)) &&& x4)) ((0 : Int32)) (M))
def md_lowers_J55 (p1 : Int32) (p2 : Int32) (rec : Int32 → Int32 → Int32 → Mem → Option (Int32 × Mem)) (K : Int32 → Mem → Option (Int32 × Mem)) (x4 : Int32) (x6 : Int32) (M : Mem) : Option (Int32 × Mem) := md_lowers_J60 p1 p2 rec K (x4) (x6) ((1 : Int32)) M
def md_lowers_L34 (p1 : Int32) (p2 : Int32) (y4 : Int32) (K : Int32 → Mem → Option (Int32 × Mem)) : Nat → Int32 → Int32 → Int32 → Mem → Option (Int32 × Mem)
  | 0, _, _, _, _ => none
  | fu + 1, x5, x6, x7, M => (if x7 = 0 then bnd2 (md_tries (p1) (x6) (p2) M) fun v2 M1 => (if v2 = 0 then (if x5 = 0 then md_lowers_J60 p1 p2 (fun a5 a6 a7 aM => md_lowers_L34 p1 p2 y4 K fu a5 a6 a7 aM) K (y4) (x6) ((0 : Int32)) M1 else md_lowers_J55 p1 p2 (fun a5 a6 a7 aM => md_lowers_L34 p1 p2 y4 K fu a5 a6 a7 aM) K (y4) (x6) M1) else md_lowers_J55 p1 p2 (fun a5 a6 a7 aM => md_lowers_L34 p1 p2 y4 K fu a5 a6 a7 aM) K (y4) (x6) M1) else K (x5) (M))
def md_lowers_L89 (p1 : Int32) (p2 : Int32) (K : Int32 → Mem → Option (Int32 × Mem)) : Nat → Int32 → Int32 → Mem → Option (Int32 × Mem)
  | 0, _, _, _ => none
  | fu + 1, x5, x8, M => (if x8 < (M 1 1) then bnd2 (md_tries (p1) (((1024 : Int32) + x8)) (p2) M) fun v6 M5 => (if v6 = 0 then (if x5 = 0 then md_lowers_L89 p1 p2 K fu ((0 : Int32)) ((x8 + (1 : Int32))) (M5) else md_lowers_L89 p1 p2 K fu ((1 : Int32)) ((x8 + (1 : Int32))) (M5)) else md_lowers_L89 p1 p2 K fu ((1 : Int32)) ((x8 + (1 : Int32))) (M5)) else K (x5) (M))
def md_lowers_J22 (p1 : Int32) (p2 : Int32) (s0 : Int32) (M : Mem) : Option (Int32 × Mem) := md_lowers_L34 p1 p2 (s0) (fun v5_2 M4 => md_lowers_L89 p1 p2 (fun v5_6 M8 => chk (isB v5_6) (some (v5_6, M8))) FU (v5_2) ((0 : Int32)) M4) FU ((0 : Int32)) (s0) ((0 : Int32)) M
def md_lowers (p1 : Int32) (p2 : Int32) (M : Mem) : Option (Int32 × Mem) := (if (irem p1 (2 : Int32)) = 0 then (md_everybody M).bind fun v9 => md_lowers_J22 p1 p2 ((v9 &&& ((p1 / (2 : Int32)) ^^^ (-1 : Int32)))) M else md_lowers_J22 p1 p2 ((p1 / (2 : Int32))) M)
set_option maxHeartbeats 4000000 in
set_option maxRecDepth 20000 in
theorem w_md_lowers_J60 {z : ZT} {l : Launch} {g : GG} {b : Nat} (C : Cx z l g (wM b) (rmd 7) cX12_lowers 9 RX12 (some .boolean)) (p1 : Int32) (p2 : Int32) (x4 : Int32) {rec : Int32 → Int32 → Int32 → Mem → Option (Int32 × Mem)} (hrec : ∀ (u5 : Int32) (u6 : Int32) (u7 : Int32) (M : Mem) , XG z g (wM b) 9 (ZQ z g (wM b) finM) 0 0 34 [some (.ref ((wM b).2.2.2 + 0)), some (.int p1), some (.int p2), none, some (.int x4), some (.int u5), some (.int u6), some (.int u7), none] [] M (rec u5 u6 u7 M)) {K : Int32 → Mem → Option (Int32 × Mem)} (hK : ∀ (u5 : Int32) (M : Mem) , XG z g (wM b) 9 (ZQ z g (wM b) finM) 0 0 86 [some (.ref ((wM b).2.2.2 + 0)), some (.int p1), some (.int p2), none, none, some (.int u5), none, none, none] [] M (K u5 M)) (x6 : Int32) (s0 : Int32) (M : Mem) : XG z g (wM b) 9 (ZQ z g (wM b) finM) 0 0 60 [some (.ref ((wM b).2.2.2 + 0)), some (.int p1), some (.int p2), none, some (.int x4), none, some (.int x6), none, none] [.int s0] M (md_lowers_J60 p1 p2 rec K x4 x6 s0 M) := by
  rw [md_lowers_J60]
  refine x_istore C dX12_lowers_60 (L' := [some (.ref ((wM b).2.2.2 + 0)), some (.int p1), some (.int p2), none, some (.int x4), some (.int s0), some (.int x6), none, none]) (ltb rfl) rfl ?_
  refine x_iload C dX12_lowers_62 (x := x6) rfl ?_
  refine x_ifne C dX12_lowers_64 (tgt := 71) (by decide) (fun _h => ?_) (fun _h => ?_)
  · refine x_iconst C dX12_lowers_71 (v := (0 : Int32)) (by decide) ?_
    refine x_istore C dX12_lowers_72 (L' := [some (.ref ((wM b).2.2.2 + 0)), some (.int p1), some (.int p2), none, some (.int x4), some (.int s0), some (.int x6), some (.int (0 : Int32)), none]) (ltb rfl) rfl ?_
    refine x_iload C dX12_lowers_74 (x := x6) rfl ?_
    refine x_iconst C dX12_lowers_76 (v := (1 : Int32)) (by decide) ?_
    refine x_isub C dX12_lowers_77 ?_
    refine x_iload C dX12_lowers_78 (x := x4) rfl ?_
    refine x_iand C dX12_lowers_80 ?_
    refine x_istore C dX12_lowers_81 (L' := [some (.ref ((wM b).2.2.2 + 0)), some (.int p1), some (.int p2), none, some (.int x4), some (.int s0), some (.int ((x6 - (1 : Int32)) &&& x4)), some (.int (0 : Int32)), none]) (ltb rfl) rfl ?_
    refine x_goto C dX12_lowers_83 (tgt := 34) (by decide) ?_
    exact x_wk (L' := [some (.ref ((wM b).2.2.2 + 0)), some (.int p1), some (.int p2), none, some (.int x4), some (.int s0), some (.int ((x6 - (1 : Int32)) &&& x4)), some (.int (0 : Int32)), none]) (And.intro rfl (And.intro rfl (And.intro rfl (And.intro rfl (And.intro rfl (And.intro rfl (And.intro rfl trivial))))))) (hrec (s0) (((x6 - (1 : Int32)) &&& x4)) ((0 : Int32)) (M))
  · refine x_iconst C dX12_lowers_67 (v := (1 : Int32)) (by decide) ?_
    refine x_goto C dX12_lowers_68 (tgt := 72) (by decide) ?_
    refine x_istore C dX12_lowers_72 (L' := [some (.ref ((wM b).2.2.2 + 0)), some (.int p1), some (.int p2), none, some (.int x4), some (.int s0), some (.int x6), some (.int (1 : Int32)), none]) (ltb rfl) rfl ?_
    refine x_iload C dX12_lowers_74 (x := x6) rfl ?_
    refine x_iconst C dX12_lowers_76 (v := (1 : Int32)) (by decide) ?_
    refine x_isub C dX12_lowers_77 ?_
    refine x_iload C dX12_lowers_78 (x := x4) rfl ?_
    refine x_iand C dX12_lowers_80 ?_
    refine x_istore C dX12_lowers_81 (L' := [some (.ref ((wM b).2.2.2 + 0)), some (.int p1), some (.int p2), none, some (.int x4), some (.int s0), some (.int ((x6 - (1 : Int32)) &&& x4)), some (.int (1 : Int32)), none]) (ltb rfl) rfl ?_
    refine x_goto C dX12_lowers_83 (tgt := 34) (by decide) ?_
    exact x_wk (L' := [some (.ref ((wM b).2.2.2 + 0)), some (.int p1), some (.int p2), none, some (.int x4), some (.int s0), some (.int ((x6 - (1 : Int32)) &&& x4)), some (.int (1 : Int32)), none]) (And.intro rfl (And.intro rfl (And.intro rfl (And.intro rfl (And.intro rfl (And.intro rfl (And.intro rfl trivial))))))) (hrec (s0) (((x6 - (1 : Int32)) &&& x4)) ((1 : Int32)) (M))
set_option maxHeartbeats 4000000 in
set_option maxRecDepth 20000 in
theorem w_md_lowers_J55 {z : ZT} {l : Launch} {g : GG} {b : Nat} (C : Cx z l g (wM b) (rmd 7) cX12_lowers 9 RX12 (some .boolean)) (p1 : Int32) (p2 : Int32) (x4 : Int32) {rec : Int32 → Int32 → Int32 → Mem → Option (Int32 × Mem)} (hrec : ∀ (u5 : Int32) (u6 : Int32) (u7 : Int32) (M : Mem) , XG z g (wM b) 9 (ZQ z g (wM b) finM) 0 0 34 [some (.ref ((wM b).2.2.2 + 0)), some (.int p1), some (.int p2), none, some (.int x4), some (.int u5), some (.int u6), some (.int u7), none] [] M (rec u5 u6 u7 M)) {K : Int32 → Mem → Option (Int32 × Mem)} (hK : ∀ (u5 : Int32) (M : Mem) , XG z g (wM b) 9 (ZQ z g (wM b) finM) 0 0 86 [some (.ref ((wM b).2.2.2 + 0)), some (.int p1), some (.int p2), none, none, some (.int u5), none, none, none] [] M (K u5 M)) (x6 : Int32) (M : Mem) : XG z g (wM b) 9 (ZQ z g (wM b) finM) 0 0 55 [some (.ref ((wM b).2.2.2 + 0)), some (.int p1), some (.int p2), none, some (.int x4), none, some (.int x6), none, none] [] M (md_lowers_J55 p1 p2 rec K x4 x6 M) := by
  rw [md_lowers_J55]
  refine x_iconst C dX12_lowers_55 (v := (1 : Int32)) (by decide) ?_
  refine x_goto C dX12_lowers_56 (tgt := 60) (by decide) ?_
  exact x_wk (L' := [some (.ref ((wM b).2.2.2 + 0)), some (.int p1), some (.int p2), none, some (.int x4), none, some (.int x6), none, none]) (And.intro rfl (And.intro rfl (And.intro rfl (And.intro rfl (And.intro rfl trivial))))) (w_md_lowers_J60 C p1 p2 (x4) hrec hK (x6) ((1 : Int32)) M)
set_option maxHeartbeats 4000000 in
set_option maxRecDepth 20000 in
theorem w_md_lowers_L34 {z : ZT} {l : Launch} {g : GG} {b : Nat} (C : Cx z l g (wM b) (rmd 7) cX12_lowers 9 RX12 (some .boolean)) (p1 : Int32) (p2 : Int32) (y4 : Int32) {K : Int32 → Mem → Option (Int32 × Mem)} (hK : ∀ (x5 : Int32) (M : Mem) , XG z g (wM b) 9 (ZQ z g (wM b) finM) 0 0 86 [some (.ref ((wM b).2.2.2 + 0)), some (.int p1), some (.int p2), none, none, some (.int x5), none, none, none] [] M (K x5 M)) : ∀ (fu : Nat) (x5 : Int32) (x6 : Int32) (x7 : Int32) (M : Mem), XG z g (wM b) 9 (ZQ z g (wM b) finM) 0 0 34 [some (.ref ((wM b).2.2.2 + 0)), some (.int p1), some (.int p2), none, some (.int y4), some (.int x5), some (.int x6), some (.int x7), none] [] M (md_lowers_L34 p1 p2 y4 K fu x5 x6 x7 M) := by
  intro fu
  induction fu with
  | zero => intro x5 x6 x7 M; exact x_none
  | succ fu ih =>
    intro x5 x6 x7 M
    rw [md_lowers_L34]
    refine x_iload C dX12_lowers_34 (x := x7) rfl ?_
    refine x_ifne C dX12_lowers_36 (tgt := 86) (by decide) (fun _h => ?_) (fun _h => ?_)
    · exact x_wk (L' := [some (.ref ((wM b).2.2.2 + 0)), some (.int p1), some (.int p2), none, none, some (.int x5), none, none, none]) (And.intro rfl (And.intro rfl (And.intro rfl (And.intro rfl trivial)))) (hK (x5) (M))
    · refine x_aloadn C dX12_lowers_39 rfl ?_
      refine x_iloadn C dX12_lowers_40 (x := p1) rfl ?_
      refine x_iload C dX12_lowers_41 (x := x6) rfl ?_
      refine x_iloadn C dX12_lowers_43 (x := p2) rfl ?_
      refine x_Vm (st := []) C (c_md_tries  (p1) (x6) (p2) M) lk_X12_256 nM0 kM0 ⟨_, _, rfl⟩ rfl rfl (Nat.le_of_ble_eq_true rfl) (rmok_d (by decide) (by decide)) ⟨Nat.zero_le _, Nat.zero_le _⟩ dX12_lowers_44 (fun v2 M1 => ?_)
      refine x_ifne C dX12_lowers_47 (tgt := 55) (by decide) (fun _h => ?_) (fun _h => ?_)
      · exact x_wk (L' := [some (.ref ((wM b).2.2.2 + 0)), some (.int p1), some (.int p2), none, some (.int y4), none, some (.int x6), none, none]) (And.intro rfl (And.intro rfl (And.intro rfl (And.intro rfl (And.intro rfl trivial))))) (w_md_lowers_J55 C p1 p2 (y4) ih hK (x6)  M1)
      · refine x_iload C dX12_lowers_50 (x := x5) rfl ?_
        refine x_ifeq C dX12_lowers_52 (tgt := 59) (by decide) (fun _h => ?_) (fun _h => ?_)
        · refine x_iconst C dX12_lowers_59 (v := (0 : Int32)) (by decide) ?_
          exact x_wk (L' := [some (.ref ((wM b).2.2.2 + 0)), some (.int p1), some (.int p2), none, some (.int y4), none, some (.int x6), none, none]) (And.intro rfl (And.intro rfl (And.intro rfl (And.intro rfl (And.intro rfl trivial))))) (w_md_lowers_J60 C p1 p2 (y4) ih hK (x6) ((0 : Int32)) M1)
        · exact x_wk (L' := [some (.ref ((wM b).2.2.2 + 0)), some (.int p1), some (.int p2), none, some (.int y4), none, some (.int x6), none, none]) (And.intro rfl (And.intro rfl (And.intro rfl (And.intro rfl (And.intro rfl trivial))))) (w_md_lowers_J55 C p1 p2 (y4) ih hK (x6)  M1)
set_option maxHeartbeats 4000000 in
set_option maxRecDepth 20000 in
theorem w_md_lowers_L89 {z : ZT} {l : Launch} {g : GG} {b : Nat} (C : Cx z l g (wM b) (rmd 7) cX12_lowers 9 RX12 (some .boolean)) (p1 : Int32) (p2 : Int32) {K : Int32 → Mem → Option (Int32 × Mem)} (hK : ∀ (x5 : Int32) (M : Mem) , XG z g (wM b) 9 (ZQ z g (wM b) finM) 0 0 133 [none, none, none, none, none, some (.int x5), none, none, none] [] M (K x5 M)) : ∀ (fu : Nat) (x5 : Int32) (x8 : Int32) (M : Mem), XG z g (wM b) 9 (ZQ z g (wM b) finM) 0 0 89 [some (.ref ((wM b).2.2.2 + 0)), some (.int p1), some (.int p2), none, none, some (.int x5), none, none, some (.int x8)] [] M (md_lowers_L89 p1 p2 K fu x5 x8 M) := by
  intro fu
  induction fu with
  | zero => intro x5 x8 M; exact x_none
  | succ fu ih =>
    intro x5 x8 M
    rw [md_lowers_L89]
    refine x_iload C dX12_lowers_89 (x := x8) rfl ?_
    refine x_aloadn C dX12_lowers_91 rfl ?_
    refine x_getR C fl_X12_7 cl_11 (1) nM0 kM0 fM0_1 dX12_lowers_92 ?_
    refine x_iconst C dX12_lowers_95 (v := (1 : Int32)) (by decide) ?_
    refine x_ialdj C nM1 kM1 (j := 1) (by decide) (by decide) dX12_lowers_96 ?_
    refine x_icmpge C dX12_lowers_97 (tgt := 133) (by decide) (fun _h => ?_) (fun _h => ?_)
    · exact x_wk (L' := [none, none, none, none, none, some (.int x5), none, none, none]) (And.intro rfl trivial) (hK (x5) (M))
    · refine x_aloadn C dX12_lowers_100 rfl ?_
      refine x_iloadn C dX12_lowers_101 (x := p1) rfl ?_
      refine x_sipush C dX12_lowers_102 (v := (1024 : Int32)) (by decide) ?_
      refine x_iload C dX12_lowers_105 (x := x8) rfl ?_
      refine x_iadd C dX12_lowers_107 ?_
      refine x_iloadn C dX12_lowers_108 (x := p2) rfl ?_
      refine x_Vm (st := []) C (c_md_tries  (p1) (((1024 : Int32) + x8)) (p2) M) lk_X12_256 nM0 kM0 ⟨_, _, rfl⟩ rfl rfl (Nat.le_of_ble_eq_true rfl) (rmok_d (by decide) (by decide)) ⟨Nat.zero_le _, Nat.zero_le _⟩ dX12_lowers_109 (fun v6 M5 => ?_)
      refine x_ifne C dX12_lowers_112 (tgt := 120) (by decide) (fun _h => ?_) (fun _h => ?_)
      · refine x_iconst C dX12_lowers_120 (v := (1 : Int32)) (by decide) ?_
        refine x_goto C dX12_lowers_121 (tgt := 125) (by decide) ?_
        refine x_istore C dX12_lowers_125 (L' := [some (.ref ((wM b).2.2.2 + 0)), some (.int p1), some (.int p2), none, none, some (.int (1 : Int32)), none, none, some (.int x8)]) (ltb rfl) rfl ?_
        refine x_iinc C dX12_lowers_127 (v := (x8 + (1 : Int32))) rfl rfl (L' := [some (.ref ((wM b).2.2.2 + 0)), some (.int p1), some (.int p2), none, none, some (.int (1 : Int32)), none, none, some (.int (x8 + (1 : Int32)))]) rfl ?_
        refine x_goto C dX12_lowers_130 (tgt := 89) (by decide) ?_
        exact x_wk (L' := [some (.ref ((wM b).2.2.2 + 0)), some (.int p1), some (.int p2), none, none, some (.int (1 : Int32)), none, none, some (.int (x8 + (1 : Int32)))]) (And.intro rfl (And.intro rfl (And.intro rfl (And.intro rfl (And.intro rfl trivial))))) (ih ((1 : Int32)) ((x8 + (1 : Int32))) (M5))
      · refine x_iload C dX12_lowers_115 (x := x5) rfl ?_
        refine x_ifeq C dX12_lowers_117 (tgt := 124) (by decide) (fun _h => ?_) (fun _h => ?_)
        · refine x_iconst C dX12_lowers_124 (v := (0 : Int32)) (by decide) ?_
          refine x_istore C dX12_lowers_125 (L' := [some (.ref ((wM b).2.2.2 + 0)), some (.int p1), some (.int p2), none, none, some (.int (0 : Int32)), none, none, some (.int x8)]) (ltb rfl) rfl ?_
          refine x_iinc C dX12_lowers_127 (v := (x8 + (1 : Int32))) rfl rfl (L' := [some (.ref ((wM b).2.2.2 + 0)), some (.int p1), some (.int p2), none, none, some (.int (0 : Int32)), none, none, some (.int (x8 + (1 : Int32)))]) rfl ?_
          refine x_goto C dX12_lowers_130 (tgt := 89) (by decide) ?_
          exact x_wk (L' := [some (.ref ((wM b).2.2.2 + 0)), some (.int p1), some (.int p2), none, none, some (.int (0 : Int32)), none, none, some (.int (x8 + (1 : Int32)))]) (And.intro rfl (And.intro rfl (And.intro rfl (And.intro rfl (And.intro rfl trivial))))) (ih ((0 : Int32)) ((x8 + (1 : Int32))) (M5))
        · refine x_iconst C dX12_lowers_120 (v := (1 : Int32)) (by decide) ?_
          refine x_goto C dX12_lowers_121 (tgt := 125) (by decide) ?_
          refine x_istore C dX12_lowers_125 (L' := [some (.ref ((wM b).2.2.2 + 0)), some (.int p1), some (.int p2), none, none, some (.int (1 : Int32)), none, none, some (.int x8)]) (ltb rfl) rfl ?_
          refine x_iinc C dX12_lowers_127 (v := (x8 + (1 : Int32))) rfl rfl (L' := [some (.ref ((wM b).2.2.2 + 0)), some (.int p1), some (.int p2), none, none, some (.int (1 : Int32)), none, none, some (.int (x8 + (1 : Int32)))]) rfl ?_
          refine x_goto C dX12_lowers_130 (tgt := 89) (by decide) ?_
          exact x_wk (L' := [some (.ref ((wM b).2.2.2 + 0)), some (.int p1), some (.int p2), none, none, some (.int (1 : Int32)), none, none, some (.int (x8 + (1 : Int32)))]) (And.intro rfl (And.intro rfl (And.intro rfl (And.intro rfl (And.intro rfl trivial))))) (ih ((1 : Int32)) ((x8 + (1 : Int32))) (M5))
set_option maxHeartbeats 4000000 in
set_option maxRecDepth 20000 in
theorem w_md_lowers_J22 {z : ZT} {l : Launch} {g : GG} {b : Nat} (C : Cx z l g (wM b) (rmd 7) cX12_lowers 9 RX12 (some .boolean)) (p1 : Int32) (p2 : Int32)  (s0 : Int32) (M : Mem) : XG z g (wM b) 9 (ZQ z g (wM b) finM) 0 0 22 [some (.ref ((wM b).2.2.2 + 0)), some (.int p1), some (.int p2), none, none, none, none, none, none] [.int s0] M (md_lowers_J22 p1 p2 s0 M) := by
  rw [md_lowers_J22]
  refine x_istore C dX12_lowers_22 (L' := [some (.ref ((wM b).2.2.2 + 0)), some (.int p1), some (.int p2), none, some (.int s0), none, none, none, none]) (ltb rfl) rfl ?_
  refine x_iconst C dX12_lowers_24 (v := (0 : Int32)) (by decide) ?_
  refine x_istore C dX12_lowers_25 (L' := [some (.ref ((wM b).2.2.2 + 0)), some (.int p1), some (.int p2), none, some (.int s0), some (.int (0 : Int32)), none, none, none]) (ltb rfl) rfl ?_
  refine x_iload C dX12_lowers_27 (x := s0) rfl ?_
  refine x_istore C dX12_lowers_29 (L' := [some (.ref ((wM b).2.2.2 + 0)), some (.int p1), some (.int p2), none, some (.int s0), some (.int (0 : Int32)), some (.int s0), none, none]) (ltb rfl) rfl ?_
  refine x_iconst C dX12_lowers_31 (v := (0 : Int32)) (by decide) ?_
  refine x_istore C dX12_lowers_32 (L' := [some (.ref ((wM b).2.2.2 + 0)), some (.int p1), some (.int p2), none, some (.int s0), some (.int (0 : Int32)), some (.int s0), some (.int (0 : Int32)), none]) (ltb rfl) rfl ?_
  refine x_wk (L' := [some (.ref ((wM b).2.2.2 + 0)), some (.int p1), some (.int p2), none, some (.int s0), some (.int (0 : Int32)), some (.int s0), some (.int (0 : Int32)), none]) (And.intro rfl (And.intro rfl (And.intro rfl (And.intro rfl (And.intro rfl (And.intro rfl (And.intro rfl trivial))))))) (w_md_lowers_L34 C p1 p2 (s0)  (fun v5_2 M4 => ?_) FU ((0 : Int32)) (s0) ((0 : Int32)) M)
  refine x_iconst C dX12_lowers_86 (v := (0 : Int32)) (by decide) ?_
  refine x_istore C dX12_lowers_87 (L' := [some (.ref ((wM b).2.2.2 + 0)), some (.int p1), some (.int p2), none, none, some (.int v5_2), none, none, some (.int (0 : Int32))]) (ltb rfl) rfl ?_
  refine x_wk (L' := [some (.ref ((wM b).2.2.2 + 0)), some (.int p1), some (.int p2), none, none, some (.int v5_2), none, none, some (.int (0 : Int32))]) (And.intro rfl (And.intro rfl (And.intro rfl (And.intro rfl (And.intro rfl trivial))))) (w_md_lowers_L89 C p1 p2   (fun v5_6 M8 => ?_) FU (v5_2) ((0 : Int32)) M4)
  refine x_iload C dX12_lowers_133 (x := v5_6) rfl ?_
  exact x_zretc C dX12_lowers_135 rfl
set_option maxHeartbeats 4000000 in
set_option maxRecDepth 20000 in
theorem c_md_lowers {l : Launch} {g : GG} {b : Nat} (p1 : Int32) (p2 : Int32) (M : Mem) : CT l g (wM b) (rmd 7) yX12_lowers cX12_lowers 9 (some .boolean) [.ref ((wM b).2.2.2 + 0), .int p1, .int p2] M finM (md_lowers p1 p2 M) := by
  refine CT.of rfl (Nat.le_of_ble_eq_true rfl) (catc rfl (catc rfl (catc rfl cat0))) (fun z C => ?_)
  have C : Cx z l g (wM b) (rmd 7) cX12_lowers 9 RX12 (some .boolean) := C
  refine x_wk (L' := [some (.ref ((wM b).2.2.2 + 0)), some (.int p1), some (.int p2), none, none, none, none, none, none]) (And.intro rfl (And.intro rfl (And.intro rfl trivial))) ?_
  rw [md_lowers]
  refine x_iloadn C dX12_lowers_0 (x := p1) rfl ?_
  refine x_iconst C dX12_lowers_1 (v := (2 : Int32)) (by decide) ?_
  refine x_idiv C dX12_lowers_2 (by decide) ?_
  refine x_istoren C dX12_lowers_3 (L' := [some (.ref ((wM b).2.2.2 + 0)), some (.int p1), some (.int p2), some (.int (p1 / (2 : Int32))), none, none, none, none, none]) (ltb rfl) rfl ?_
  refine x_iloadn C dX12_lowers_4 (x := p1) rfl ?_
  refine x_iconst C dX12_lowers_5 (v := (2 : Int32)) (by decide) ?_
  refine x_irem C dX12_lowers_6 (by decide) ?_
  refine x_ifne C dX12_lowers_7 (tgt := 21) (by decide) (fun _h => ?_) (fun _h => ?_)
  · refine x_iloadn C dX12_lowers_21 (x := (p1 / (2 : Int32))) rfl ?_
    exact x_wk (L' := [some (.ref ((wM b).2.2.2 + 0)), some (.int p1), some (.int p2), none, none, none, none, none, none]) (And.intro rfl (And.intro rfl (And.intro rfl trivial))) (w_md_lowers_J22 C p1 p2   ((p1 / (2 : Int32))) M)
  · refine x_aloadn C dX12_lowers_10 rfl ?_
    refine x_Vi (st := []) C (c_md_everybody   M) lk_X12_208 nM0 kM0 ⟨_, _, rfl⟩ rfl rfl (Nat.le_of_ble_eq_true rfl) (rmok_d (by decide) (by decide)) ⟨Nat.zero_le _, Nat.zero_le _⟩ dX12_lowers_11 (fun v9 => ?_)
    refine x_iloadn C dX12_lowers_14 (x := (p1 / (2 : Int32))) rfl ?_
    refine x_iconst C dX12_lowers_15 (v := (-1 : Int32)) (by decide) ?_
    refine x_ixor C dX12_lowers_16 ?_
    refine x_iand C dX12_lowers_17 ?_
    refine x_goto C dX12_lowers_18 (tgt := 22) (by decide) ?_
    exact x_wk (L' := [some (.ref ((wM b).2.2.2 + 0)), some (.int p1), some (.int p2), none, none, none, none, none, none]) (And.intro rfl (And.intro rfl (And.intro rfl trivial))) (w_md_lowers_J22 C p1 p2   ((v9 &&& ((p1 / (2 : Int32)) ^^^ (-1 : Int32)))) M)
def md_costs_J52 (p1 : Int32) (p2 : Int32) (rec : Int32 → Mem → Option Mem) (K : Mem → Option Mem) (x3 : Int32) (x4 : Int32) (x5 : Int32) (s0 : Int32) (s1 : Int32) (M : Mem) : Option Mem := chk (inb s1 2048) (lt1 (wr M 6 s1.toNatClampNeg s0) fun M1 => (if x5 = 0 then chk (inb x4 2048) (lt1 (wr M1 7 x4.toNatClampNeg (100000000 : Int32)) fun M2 => rec ((x4 + (1 : Int32))) (M2)) else chk (inb x4 2048) (lt1 (wr M1 7 x4.toNatClampNeg (0 : Int32)) fun M3 => rec ((x4 + (1 : Int32))) (M3))))
def md_costs_J33 (p1 : Int32) (p2 : Int32) (rec : Int32 → Mem → Option Mem) (K : Mem → Option Mem) (x3 : Int32) (x4 : Int32) (s0 : Int32) (M : Mem) : Option Mem := (if s0 = 0 then md_costs_J52 p1 p2 rec K (x3) (x4) (s0) ((100000000 : Int32)) (x4) M else md_costs_J52 p1 p2 rec K (x3) (x4) (s0) ((0 : Int32)) (x4) M)
def md_costs_L12 (p1 : Int32) (p2 : Int32) (y3 : Int32) (K : Mem → Option Mem) : Nat → Int32 → Mem → Option Mem
  | 0, _, _ => none
  | fu + 1, x4, M => (if x4 < y3 then (if ((x4 / (2 : Int32)) &&& p1) = p1 then md_costs_J33 p1 p2 (fun a4 aM => md_costs_L12 p1 p2 y3 K fu a4 aM) K (y3) (x4) ((1 : Int32)) M else md_costs_J33 p1 p2 (fun a4 aM => md_costs_L12 p1 p2 y3 K fu a4 aM) K (y3) (x4) ((0 : Int32)) M) else K (M))
def md_costs_L91 (p1 : Int32) (p2 : Int32) (y3 : Int32) (K : Int32 → Mem → Option Mem) : Nat → Int32 → Int32 → Mem → Option Mem
  | 0, _, _, _ => none
  | fu + 1, x4, x5, M => (if x5 < y3 then chk (inb x5 2048) ((if (M 7 x5.toNatClampNeg) = 0 then md_costs_L91 p1 p2 y3 K fu (x4) ((x5 + (1 : Int32))) (M) else bnd2 (md_lowers (x5) (p2) M) fun v7 M6 => (if v7 = 0 then (if x4 = 0 then md_costs_L91 p1 p2 y3 K fu ((0 : Int32)) ((x5 + (1 : Int32))) (M6) else md_costs_L91 p1 p2 y3 K fu ((1 : Int32)) ((x5 + (1 : Int32))) (M6)) else md_costs_L91 p1 p2 y3 K fu ((1 : Int32)) ((x5 + (1 : Int32))) (M6)))) else K (x4) (M))
def md_costs_L80 (p1 : Int32) (p2 : Int32) (y3 : Int32) (K : Mem → Option Mem) : Nat → Int32 → Mem → Option Mem
  | 0, _, _ => none
  | fu + 1, x4, M => (if x4 = 0 then K (M) else md_costs_L91 p1 p2 (y3) (fun v4_7 M9 => md_costs_L80 p1 p2 y3 K fu (v4_7) (M9)) FU ((0 : Int32)) ((0 : Int32)) M)
def md_costs (p1 : Int32) (p2 : Int32) (M : Mem) : Option Mem := md_costs_L12 p1 p2 (((2 : Int32) <<< ((M 1 1) &&& 31))) (fun M5 => md_costs_L80 p1 p2 (((2 : Int32) <<< ((M 1 1) &&& 31))) (fun M11 => some M11) FU ((1 : Int32)) M5) FU ((0 : Int32)) M
set_option maxHeartbeats 4000000 in
set_option maxRecDepth 20000 in
theorem w_md_costs_J52 {z : ZT} {l : Launch} {g : GG} {b : Nat} (C : Cx z l g (wM b) (rmd 8) cX12_costs 6 RX12 none) (p1 : Int32) (p2 : Int32) (x3 : Int32) {rec : Int32 → Mem → Option Mem} (hrec : ∀ (u4 : Int32) (M : Mem) , XG z g (wM b) 6 (ZQ z g (wM b) finV) 0 0 12 [some (.ref ((wM b).2.2.2 + 0)), some (.int p1), some (.int p2), some (.int x3), some (.int u4), none] [] M (rec u4 M)) {K : Mem → Option Mem} (hK : ∀ (M : Mem) , XG z g (wM b) 6 (ZQ z g (wM b) finV) 0 0 77 [some (.ref ((wM b).2.2.2 + 0)), none, some (.int p2), some (.int x3), none, none] [] M (K  M)) (x4 : Int32) (x5 : Int32) (s0 : Int32) (s1 : Int32) (M : Mem) : XG z g (wM b) 6 (ZQ z g (wM b) finV) 0 0 52 [some (.ref ((wM b).2.2.2 + 0)), some (.int p1), some (.int p2), some (.int x3), some (.int x4), some (.int x5)] [.int s0, .int s1, .ref ((wM b).2.2.2 + 6)] M (md_costs_J52 p1 p2 rec K x3 x4 x5 s0 s1 M) := by
  rw [md_costs_J52]
  refine x_iast C nM6 kM6 dX12_costs_52 ?_
  refine x_ltM (fun M1 => ?_)
  refine x_aloadn C dX12_costs_53 rfl ?_
  refine x_getR C fl_X12_32 cl_11 (7) nM0 kM0 fM0_15 dX12_costs_54 ?_
  refine x_iload C dX12_costs_57 (x := x4) rfl ?_
  refine x_iload C dX12_costs_59 (x := x5) rfl ?_
  refine x_ifeq C dX12_costs_61 (tgt := 68) (by decide) (fun _h => ?_) (fun _h => ?_)
  · refine x_ldc C dX12_costs_68 (v := (100000000 : Int32)) cn_X12_251 ?_
    refine x_iast C nM7 kM7 dX12_costs_70 ?_
    refine x_ltM (fun M2 => ?_)
    refine x_iinc C dX12_costs_71 (v := (x4 + (1 : Int32))) rfl rfl (L' := [some (.ref ((wM b).2.2.2 + 0)), some (.int p1), some (.int p2), some (.int x3), some (.int (x4 + (1 : Int32))), some (.int x5)]) rfl ?_
    refine x_goto C dX12_costs_74 (tgt := 12) (by decide) ?_
    exact x_wk (L' := [some (.ref ((wM b).2.2.2 + 0)), some (.int p1), some (.int p2), some (.int x3), some (.int (x4 + (1 : Int32))), none]) (And.intro rfl (And.intro rfl (And.intro rfl (And.intro rfl (And.intro rfl trivial))))) (hrec ((x4 + (1 : Int32))) (M2))
  · refine x_iconst C dX12_costs_64 (v := (0 : Int32)) (by decide) ?_
    refine x_goto C dX12_costs_65 (tgt := 70) (by decide) ?_
    refine x_iast C nM7 kM7 dX12_costs_70 ?_
    refine x_ltM (fun M3 => ?_)
    refine x_iinc C dX12_costs_71 (v := (x4 + (1 : Int32))) rfl rfl (L' := [some (.ref ((wM b).2.2.2 + 0)), some (.int p1), some (.int p2), some (.int x3), some (.int (x4 + (1 : Int32))), some (.int x5)]) rfl ?_
    refine x_goto C dX12_costs_74 (tgt := 12) (by decide) ?_
    exact x_wk (L' := [some (.ref ((wM b).2.2.2 + 0)), some (.int p1), some (.int p2), some (.int x3), some (.int (x4 + (1 : Int32))), none]) (And.intro rfl (And.intro rfl (And.intro rfl (And.intro rfl (And.intro rfl trivial))))) (hrec ((x4 + (1 : Int32))) (M3))
set_option maxHeartbeats 4000000 in
set_option maxRecDepth 20000 in
theorem w_md_costs_J33 {z : ZT} {l : Launch} {g : GG} {b : Nat} (C : Cx z l g (wM b) (rmd 8) cX12_costs 6 RX12 none) (p1 : Int32) (p2 : Int32) (x3 : Int32) {rec : Int32 → Mem → Option Mem} (hrec : ∀ (u4 : Int32) (M : Mem) , XG z g (wM b) 6 (ZQ z g (wM b) finV) 0 0 12 [some (.ref ((wM b).2.2.2 + 0)), some (.int p1), some (.int p2), some (.int x3), some (.int u4), none] [] M (rec u4 M)) {K : Mem → Option Mem} (hK : ∀ (M : Mem) , XG z g (wM b) 6 (ZQ z g (wM b) finV) 0 0 77 [some (.ref ((wM b).2.2.2 + 0)), none, some (.int p2), some (.int x3), none, none] [] M (K  M)) (x4 : Int32) (s0 : Int32) (M : Mem) : XG z g (wM b) 6 (ZQ z g (wM b) finV) 0 0 33 [some (.ref ((wM b).2.2.2 + 0)), some (.int p1), some (.int p2), some (.int x3), some (.int x4), none] [.int s0] M (md_costs_J33 p1 p2 rec K x3 x4 s0 M) := by
  rw [md_costs_J33]
  refine x_istore C dX12_costs_33 (L' := [some (.ref ((wM b).2.2.2 + 0)), some (.int p1), some (.int p2), some (.int x3), some (.int x4), some (.int s0)]) (ltb rfl) rfl ?_
  refine x_aloadn C dX12_costs_35 rfl ?_
  refine x_getR C fl_X12_29 cl_11 (6) nM0 kM0 fM0_14 dX12_costs_36 ?_
  refine x_iload C dX12_costs_39 (x := x4) rfl ?_
  refine x_iload C dX12_costs_41 (x := s0) rfl ?_
  refine x_ifeq C dX12_costs_43 (tgt := 50) (by decide) (fun _h => ?_) (fun _h => ?_)
  · refine x_ldc C dX12_costs_50 (v := (100000000 : Int32)) cn_X12_251 ?_
    exact x_wk (L' := [some (.ref ((wM b).2.2.2 + 0)), some (.int p1), some (.int p2), some (.int x3), some (.int x4), some (.int s0)]) (And.intro rfl (And.intro rfl (And.intro rfl (And.intro rfl (And.intro rfl (And.intro rfl trivial)))))) (w_md_costs_J52 C p1 p2 (x3) hrec hK (x4) (s0) ((100000000 : Int32)) (x4) M)
  · refine x_iconst C dX12_costs_46 (v := (0 : Int32)) (by decide) ?_
    refine x_goto C dX12_costs_47 (tgt := 52) (by decide) ?_
    exact x_wk (L' := [some (.ref ((wM b).2.2.2 + 0)), some (.int p1), some (.int p2), some (.int x3), some (.int x4), some (.int s0)]) (And.intro rfl (And.intro rfl (And.intro rfl (And.intro rfl (And.intro rfl (And.intro rfl trivial)))))) (w_md_costs_J52 C p1 p2 (x3) hrec hK (x4) (s0) ((0 : Int32)) (x4) M)
set_option maxHeartbeats 4000000 in
set_option maxRecDepth 20000 in
theorem w_md_costs_L12 {z : ZT} {l : Launch} {g : GG} {b : Nat} (C : Cx z l g (wM b) (rmd 8) cX12_costs 6 RX12 none) (p1 : Int32) (p2 : Int32) (y3 : Int32) {K : Mem → Option Mem} (hK : ∀ (M : Mem) , XG z g (wM b) 6 (ZQ z g (wM b) finV) 0 0 77 [some (.ref ((wM b).2.2.2 + 0)), none, some (.int p2), some (.int y3), none, none] [] M (K M)) : ∀ (fu : Nat) (x4 : Int32) (M : Mem), XG z g (wM b) 6 (ZQ z g (wM b) finV) 0 0 12 [some (.ref ((wM b).2.2.2 + 0)), some (.int p1), some (.int p2), some (.int y3), some (.int x4), none] [] M (md_costs_L12 p1 p2 y3 K fu x4 M) := by
  intro fu
  induction fu with
  | zero => intro x4 M; exact x_none
  | succ fu ih =>
    intro x4 M
    rw [md_costs_L12]
    refine x_iload C dX12_costs_12 (x := x4) rfl ?_
    refine x_iloadn C dX12_costs_14 (x := y3) rfl ?_
    refine x_icmpge C dX12_costs_15 (tgt := 77) (by decide) (fun _h => ?_) (fun _h => ?_)
    · exact x_wk (L' := [some (.ref ((wM b).2.2.2 + 0)), none, some (.int p2), some (.int y3), none, none]) (And.intro rfl (And.intro rfl (And.intro rfl trivial))) (hK (M))
    · refine x_iload C dX12_costs_18 (x := x4) rfl ?_
      refine x_iconst C dX12_costs_20 (v := (2 : Int32)) (by decide) ?_
      refine x_idiv C dX12_costs_21 (by decide) ?_
      refine x_iloadn C dX12_costs_22 (x := p1) rfl ?_
      refine x_iand C dX12_costs_23 ?_
      refine x_iloadn C dX12_costs_24 (x := p1) rfl ?_
      refine x_icmpne C dX12_costs_25 (tgt := 32) (by decide) (fun _h => ?_) (fun _h => ?_)
      · refine x_iconst C dX12_costs_32 (v := (0 : Int32)) (by decide) ?_
        exact x_wk (L' := [some (.ref ((wM b).2.2.2 + 0)), some (.int p1), some (.int p2), some (.int y3), some (.int x4), none]) (And.intro rfl (And.intro rfl (And.intro rfl (And.intro rfl (And.intro rfl trivial))))) (w_md_costs_J33 C p1 p2 (y3) ih hK (x4) ((0 : Int32)) M)
      · refine x_iconst C dX12_costs_28 (v := (1 : Int32)) (by decide) ?_
        refine x_goto C dX12_costs_29 (tgt := 33) (by decide) ?_
        exact x_wk (L' := [some (.ref ((wM b).2.2.2 + 0)), some (.int p1), some (.int p2), some (.int y3), some (.int x4), none]) (And.intro rfl (And.intro rfl (And.intro rfl (And.intro rfl (And.intro rfl trivial))))) (w_md_costs_J33 C p1 p2 (y3) ih hK (x4) ((1 : Int32)) M)
set_option maxHeartbeats 4000000 in
set_option maxRecDepth 20000 in
theorem w_md_costs_L91 {z : ZT} {l : Launch} {g : GG} {b : Nat} (C : Cx z l g (wM b) (rmd 8) cX12_costs 6 RX12 none) (p1 : Int32) (p2 : Int32) (y3 : Int32) {K : Int32 → Mem → Option Mem} (hK : ∀ (x4 : Int32) (M : Mem) , XG z g (wM b) 6 (ZQ z g (wM b) finV) 0 0 135 [some (.ref ((wM b).2.2.2 + 0)), none, some (.int p2), some (.int y3), some (.int x4), none] [] M (K x4 M)) : ∀ (fu : Nat) (x4 : Int32) (x5 : Int32) (M : Mem), XG z g (wM b) 6 (ZQ z g (wM b) finV) 0 0 91 [some (.ref ((wM b).2.2.2 + 0)), none, some (.int p2), some (.int y3), some (.int x4), some (.int x5)] [] M (md_costs_L91 p1 p2 y3 K fu x4 x5 M) := by
  intro fu
  induction fu with
  | zero => intro x4 x5 M; exact x_none
  | succ fu ih =>
    intro x4 x5 M
    rw [md_costs_L91]
    refine x_iload C dX12_costs_91 (x := x5) rfl ?_
    refine x_iloadn C dX12_costs_93 (x := y3) rfl ?_
    refine x_icmpge C dX12_costs_94 (tgt := 135) (by decide) (fun _h => ?_) (fun _h => ?_)
    · exact x_wk (L' := [some (.ref ((wM b).2.2.2 + 0)), none, some (.int p2), some (.int y3), some (.int x4), none]) (And.intro rfl (And.intro rfl (And.intro rfl (And.intro rfl trivial)))) (hK (x4) (M))
    · refine x_aloadn C dX12_costs_97 rfl ?_
      refine x_getR C fl_X12_32 cl_11 (7) nM0 kM0 fM0_15 dX12_costs_98 ?_
      refine x_iload C dX12_costs_101 (x := x5) rfl ?_
      refine x_iald C nM7 kM7 dX12_costs_103 ?_
      refine x_ifeq C dX12_costs_104 (tgt := 129) (by decide) (fun _h => ?_) (fun _h => ?_)
      · refine x_iinc C dX12_costs_129 (v := (x5 + (1 : Int32))) rfl rfl (L' := [some (.ref ((wM b).2.2.2 + 0)), none, some (.int p2), some (.int y3), some (.int x4), some (.int (x5 + (1 : Int32)))]) rfl ?_
        refine x_goto C dX12_costs_132 (tgt := 91) (by decide) ?_
        exact x_wk (L' := [some (.ref ((wM b).2.2.2 + 0)), none, some (.int p2), some (.int y3), some (.int x4), some (.int (x5 + (1 : Int32)))]) (And.intro rfl (And.intro rfl (And.intro rfl (And.intro rfl (And.intro rfl trivial))))) (ih (x4) ((x5 + (1 : Int32))) (M))
      · refine x_aloadn C dX12_costs_107 rfl ?_
        refine x_iload C dX12_costs_108 (x := x5) rfl ?_
        refine x_iloadn C dX12_costs_110 (x := p2) rfl ?_
        refine x_Vm (st := []) C (c_md_lowers  (x5) (p2) M) lk_X12_252 nM0 kM0 ⟨_, _, rfl⟩ rfl rfl (Nat.le_of_ble_eq_true rfl) (rmok_d (by decide) (by decide)) ⟨Nat.zero_le _, Nat.zero_le _⟩ dX12_costs_111 (fun v7 M6 => ?_)
        refine x_ifne C dX12_costs_114 (tgt := 122) (by decide) (fun _h => ?_) (fun _h => ?_)
        · refine x_iconst C dX12_costs_122 (v := (1 : Int32)) (by decide) ?_
          refine x_goto C dX12_costs_123 (tgt := 127) (by decide) ?_
          refine x_istore C dX12_costs_127 (L' := [some (.ref ((wM b).2.2.2 + 0)), none, some (.int p2), some (.int y3), some (.int (1 : Int32)), some (.int x5)]) (ltb rfl) rfl ?_
          refine x_iinc C dX12_costs_129 (v := (x5 + (1 : Int32))) rfl rfl (L' := [some (.ref ((wM b).2.2.2 + 0)), none, some (.int p2), some (.int y3), some (.int (1 : Int32)), some (.int (x5 + (1 : Int32)))]) rfl ?_
          refine x_goto C dX12_costs_132 (tgt := 91) (by decide) ?_
          exact x_wk (L' := [some (.ref ((wM b).2.2.2 + 0)), none, some (.int p2), some (.int y3), some (.int (1 : Int32)), some (.int (x5 + (1 : Int32)))]) (And.intro rfl (And.intro rfl (And.intro rfl (And.intro rfl (And.intro rfl trivial))))) (ih ((1 : Int32)) ((x5 + (1 : Int32))) (M6))
        · refine x_iload C dX12_costs_117 (x := x4) rfl ?_
          refine x_ifeq C dX12_costs_119 (tgt := 126) (by decide) (fun _h => ?_) (fun _h => ?_)
          · refine x_iconst C dX12_costs_126 (v := (0 : Int32)) (by decide) ?_
            refine x_istore C dX12_costs_127 (L' := [some (.ref ((wM b).2.2.2 + 0)), none, some (.int p2), some (.int y3), some (.int (0 : Int32)), some (.int x5)]) (ltb rfl) rfl ?_
            refine x_iinc C dX12_costs_129 (v := (x5 + (1 : Int32))) rfl rfl (L' := [some (.ref ((wM b).2.2.2 + 0)), none, some (.int p2), some (.int y3), some (.int (0 : Int32)), some (.int (x5 + (1 : Int32)))]) rfl ?_
            refine x_goto C dX12_costs_132 (tgt := 91) (by decide) ?_
            exact x_wk (L' := [some (.ref ((wM b).2.2.2 + 0)), none, some (.int p2), some (.int y3), some (.int (0 : Int32)), some (.int (x5 + (1 : Int32)))]) (And.intro rfl (And.intro rfl (And.intro rfl (And.intro rfl (And.intro rfl trivial))))) (ih ((0 : Int32)) ((x5 + (1 : Int32))) (M6))
          · refine x_iconst C dX12_costs_122 (v := (1 : Int32)) (by decide) ?_
            refine x_goto C dX12_costs_123 (tgt := 127) (by decide) ?_
            refine x_istore C dX12_costs_127 (L' := [some (.ref ((wM b).2.2.2 + 0)), none, some (.int p2), some (.int y3), some (.int (1 : Int32)), some (.int x5)]) (ltb rfl) rfl ?_
            refine x_iinc C dX12_costs_129 (v := (x5 + (1 : Int32))) rfl rfl (L' := [some (.ref ((wM b).2.2.2 + 0)), none, some (.int p2), some (.int y3), some (.int (1 : Int32)), some (.int (x5 + (1 : Int32)))]) rfl ?_
            refine x_goto C dX12_costs_132 (tgt := 91) (by decide) ?_
            exact x_wk (L' := [some (.ref ((wM b).2.2.2 + 0)), none, some (.int p2), some (.int y3), some (.int (1 : Int32)), some (.int (x5 + (1 : Int32)))]) (And.intro rfl (And.intro rfl (And.intro rfl (And.intro rfl (And.intro rfl trivial))))) (ih ((1 : Int32)) ((x5 + (1 : Int32))) (M6))
set_option maxHeartbeats 4000000 in
set_option maxRecDepth 20000 in
theorem w_md_costs_L80 {z : ZT} {l : Launch} {g : GG} {b : Nat} (C : Cx z l g (wM b) (rmd 8) cX12_costs 6 RX12 none) (p1 : Int32) (p2 : Int32) (y3 : Int32) {K : Mem → Option Mem} (hK : ∀ (M : Mem) , XG z g (wM b) 6 (ZQ z g (wM b) finV) 0 0 138 [none, none, none, none, none, none] [] M (K M)) : ∀ (fu : Nat) (x4 : Int32) (M : Mem), XG z g (wM b) 6 (ZQ z g (wM b) finV) 0 0 80 [some (.ref ((wM b).2.2.2 + 0)), none, some (.int p2), some (.int y3), some (.int x4), none] [] M (md_costs_L80 p1 p2 y3 K fu x4 M) := by
  intro fu
  induction fu with
  | zero => intro x4 M; exact x_none
  | succ fu ih =>
    intro x4 M
    rw [md_costs_L80]
    refine x_iload C dX12_costs_80 (x := x4) rfl ?_
    refine x_ifeq C dX12_costs_82 (tgt := 138) (by decide) (fun _h => ?_) (fun _h => ?_)
    · exact x_wk (L' := [none, none, none, none, none, none]) (trivial) (hK (M))
    · refine x_iconst C dX12_costs_85 (v := (0 : Int32)) (by decide) ?_
      refine x_istore C dX12_costs_86 (L' := [some (.ref ((wM b).2.2.2 + 0)), none, some (.int p2), some (.int y3), some (.int (0 : Int32)), none]) (ltb rfl) rfl ?_
      refine x_iconst C dX12_costs_88 (v := (0 : Int32)) (by decide) ?_
      refine x_istore C dX12_costs_89 (L' := [some (.ref ((wM b).2.2.2 + 0)), none, some (.int p2), some (.int y3), some (.int (0 : Int32)), some (.int (0 : Int32))]) (ltb rfl) rfl ?_
      refine x_wk (L' := [some (.ref ((wM b).2.2.2 + 0)), none, some (.int p2), some (.int y3), some (.int (0 : Int32)), some (.int (0 : Int32))]) (And.intro rfl (And.intro rfl (And.intro rfl (And.intro rfl (And.intro rfl trivial))))) (w_md_costs_L91 C p1 p2 (y3)  (fun v4_7 M9 => ?_) FU ((0 : Int32)) ((0 : Int32)) M)
      refine x_goto C dX12_costs_135 (tgt := 80) (by decide) ?_
      exact x_wk (L' := [some (.ref ((wM b).2.2.2 + 0)), none, some (.int p2), some (.int y3), some (.int v4_7), none]) (And.intro rfl (And.intro rfl (And.intro rfl (And.intro rfl trivial)))) (ih (v4_7) (M9))
set_option maxHeartbeats 4000000 in
set_option maxRecDepth 20000 in
theorem c_md_costs {l : Launch} {g : GG} {b : Nat} (p1 : Int32) (p2 : Int32) (M : Mem) : CT l g (wM b) (rmd 8) yX12_costs cX12_costs 6 none [.ref ((wM b).2.2.2 + 0), .int p1, .int p2] M finV (md_costs p1 p2 M) := by
  refine CT.of rfl (Nat.le_of_ble_eq_true rfl) (catc rfl (catc rfl (catc rfl cat0))) (fun z C => ?_)
  have C : Cx z l g (wM b) (rmd 8) cX12_costs 6 RX12 none := C
  refine x_wk (L' := [some (.ref ((wM b).2.2.2 + 0)), some (.int p1), some (.int p2), none, none, none]) (And.intro rfl (And.intro rfl (And.intro rfl trivial))) ?_
  rw [md_costs]
  refine x_iconst C dX12_costs_0 (v := (2 : Int32)) (by decide) ?_
  refine x_aloadn C dX12_costs_1 rfl ?_
  refine x_getR C fl_X12_7 cl_11 (1) nM0 kM0 fM0_1 dX12_costs_2 ?_
  refine x_iconst C dX12_costs_5 (v := (1 : Int32)) (by decide) ?_
  refine x_ialdj C nM1 kM1 (j := 1) (by decide) (by decide) dX12_costs_6 ?_
  refine x_ishl C dX12_costs_7 ?_
  refine x_istoren C dX12_costs_8 (L' := [some (.ref ((wM b).2.2.2 + 0)), some (.int p1), some (.int p2), some (.int ((2 : Int32) <<< ((M 1 1) &&& 31))), none, none]) (ltb rfl) rfl ?_
  refine x_iconst C dX12_costs_9 (v := (0 : Int32)) (by decide) ?_
  refine x_istore C dX12_costs_10 (L' := [some (.ref ((wM b).2.2.2 + 0)), some (.int p1), some (.int p2), some (.int ((2 : Int32) <<< ((M 1 1) &&& 31))), some (.int (0 : Int32)), none]) (ltb rfl) rfl ?_
  refine x_wk (L' := [some (.ref ((wM b).2.2.2 + 0)), some (.int p1), some (.int p2), some (.int ((2 : Int32) <<< ((M 1 1) &&& 31))), some (.int (0 : Int32)), none]) (And.intro rfl (And.intro rfl (And.intro rfl (And.intro rfl (And.intro rfl trivial))))) (w_md_costs_L12 C p1 p2 (((2 : Int32) <<< ((M 1 1) &&& 31)))  (fun M5 => ?_) FU ((0 : Int32)) M)
  refine x_iconst C dX12_costs_77 (v := (1 : Int32)) (by decide) ?_
  refine x_istore C dX12_costs_78 (L' := [some (.ref ((wM b).2.2.2 + 0)), none, some (.int p2), some (.int ((2 : Int32) <<< ((M 1 1) &&& 31))), some (.int (1 : Int32)), none]) (ltb rfl) rfl ?_
  refine x_wk (L' := [some (.ref ((wM b).2.2.2 + 0)), none, some (.int p2), some (.int ((2 : Int32) <<< ((M 1 1) &&& 31))), some (.int (1 : Int32)), none]) (And.intro rfl (And.intro rfl (And.intro rfl (And.intro rfl trivial)))) (w_md_costs_L80 C p1 p2 (((2 : Int32) <<< ((M 1 1) &&& 31)))  (fun M11 => ?_) FU ((1 : Int32)) M5)
  exact x_vret C dX12_costs_138 rfl
def md_stateNow (M : Mem) : Option Int32 := some ((((2 : Int32) * (M 1 4)) + (M 1 3)))
set_option maxHeartbeats 4000000 in
set_option maxRecDepth 20000 in
theorem c_md_stateNow {l : Launch} {g : GG} {b : Nat} (M : Mem) : CT l g (wM b) (rmd 1) yX12_stateNow cX12_stateNow 1 (some .int) [.ref ((wM b).2.2.2 + 0)] M (finI M) (md_stateNow  M) := by
  refine CT.of rfl (Nat.le_of_ble_eq_true rfl) (catc rfl cat0) (fun z C => ?_)
  have C : Cx z l g (wM b) (rmd 1) cX12_stateNow 1 RX12 (some .int) := C
  refine x_wk (L' := [some (.ref ((wM b).2.2.2 + 0))]) (And.intro rfl trivial) ?_
  rw [md_stateNow]
  refine x_iconst C dX12_stateNow_0 (v := (2 : Int32)) (by decide) ?_
  refine x_aloadn C dX12_stateNow_1 rfl ?_
  refine x_getR C fl_X12_7 cl_11 (1) nM0 kM0 fM0_1 dX12_stateNow_2 ?_
  refine x_iconst C dX12_stateNow_5 (v := (4 : Int32)) (by decide) ?_
  refine x_ialdj C nM1 kM1 (j := 4) (by decide) (by decide) dX12_stateNow_6 ?_
  refine x_imul C dX12_stateNow_7 ?_
  refine x_aloadn C dX12_stateNow_8 rfl ?_
  refine x_getR C fl_X12_7 cl_11 (1) nM0 kM0 fM0_1 dX12_stateNow_9 ?_
  refine x_iconst C dX12_stateNow_12 (v := (3 : Int32)) (by decide) ?_
  refine x_ialdj C nM1 kM1 (j := 3) (by decide) (by decide) dX12_stateNow_13 ?_
  refine x_iadd C dX12_stateNow_14 ?_
  exact x_iret C dX12_stateNow_15 rfl
def md_plan_J15 (p1 : Int32) (p2 : Int32) (p3 : Int32) (s0 : Int32) (M : Mem) : Option (Int32 × Mem) := lt1 (wr M 0 0 s0) fun M2 => (if 0 < (M2 0 0) then some ((0 : Int32), M2) else (md_everybody M2).bind fun v3 => (md_costs ((p1 &&& v3)) (p2) M2).bind fun M4 => (md_stateNow M4).bind fun v5 => chk (inb v5 2048) ((if (M4 7 v5.toNatClampNeg) = (100000000 : Int32) then some ((-1 : Int32), M4) else (if p3 = 0 then chk (inb v5 2048) (some ((M4 6 v5.toNatClampNeg), M4)) else chk (inb v5 2048) (some ((M4 7 v5.toNatClampNeg), M4))))))
def md_plan (p1 : Int32) (p2 : Int32) (p3 : Int32) (M : Mem) : Option (Int32 × Mem) := (md_isIn (p3) ((0 : Int32)) ((1 : Int32)) M).bind fun v1 => (if v1 = 0 then md_plan_J15 p1 p2 p3 ((1 : Int32)) M else md_plan_J15 p1 p2 p3 ((0 : Int32)) M)
set_option maxHeartbeats 4000000 in
set_option maxRecDepth 20000 in
theorem w_md_plan_J15 {z : ZT} {l : Launch} {g : GG} {b : Nat} (C : Cx z l g (wM b) (rmd 9) cX12_plan 5 RX12 (some .int)) (p1 : Int32) (p2 : Int32) (p3 : Int32)  (s0 : Int32) (M : Mem) : XG z g (wM b) 5 (ZQ z g (wM b) finM) 0 0 15 [some (.ref ((wM b).2.2.2 + 0)), some (.int p1), some (.int p2), some (.int p3), none] [.int s0, .ref ((wM b).2.2.2 + 0)] M (md_plan_J15 p1 p2 p3 s0 M) := by
  rw [md_plan_J15]
  refine x_putI C fl_X12_59 cl_11 fint_11_0 nM0 kM0 fM0_0 dX12_plan_15 ?_
  refine x_ltM (fun M2 => ?_)
  refine x_aloadn C dX12_plan_18 rfl ?_
  refine x_getI C fl_X12_59 cl_11 nM0 kM0 fM0_0 dX12_plan_19 ?_
  refine x_ifle C dX12_plan_22 (tgt := 27) (by decide) (fun _h => ?_) (fun _h => ?_)
  · refine x_aloadn C dX12_plan_27 rfl ?_
    refine x_iloadn C dX12_plan_28 (x := p1) rfl ?_
    refine x_aloadn C dX12_plan_29 rfl ?_
    refine x_Vi (st := [.int p1, .ref ((wM b).2.2.2 + 0)]) C (c_md_everybody   M2) lk_X12_208 nM0 kM0 ⟨_, _, rfl⟩ rfl rfl (Nat.le_of_ble_eq_true rfl) (rmok_d (by decide) (by decide)) ⟨Nat.zero_le _, Nat.zero_le _⟩ dX12_plan_30 (fun v3 => ?_)
    refine x_iand C dX12_plan_33 ?_
    refine x_iloadn C dX12_plan_34 (x := p2) rfl ?_
    refine x_Vv (st := []) C (c_md_costs  ((p1 &&& v3)) (p2) M2) lk_X12_267 nM0 kM0 ⟨_, _, rfl⟩ rfl rfl (Nat.le_of_ble_eq_true rfl) (rmok_d (by decide) (by decide)) ⟨Nat.zero_le _, Nat.zero_le _⟩ dX12_plan_35 (fun M4 => ?_)
    refine x_aloadn C dX12_plan_38 rfl ?_
    refine x_Vi (st := []) C (c_md_stateNow   M4) lk_X12_271 nM0 kM0 ⟨_, _, rfl⟩ rfl rfl (Nat.le_of_ble_eq_true rfl) (rmok_d (by decide) (by decide)) ⟨Nat.zero_le _, Nat.zero_le _⟩ dX12_plan_39 (fun v5 => ?_)
    refine x_istore C dX12_plan_42 (L' := [some (.ref ((wM b).2.2.2 + 0)), some (.int p1), some (.int p2), some (.int p3), some (.int v5)]) (ltb rfl) rfl ?_
    refine x_aloadn C dX12_plan_44 rfl ?_
    refine x_getR C fl_X12_32 cl_11 (7) nM0 kM0 fM0_15 dX12_plan_45 ?_
    refine x_iload C dX12_plan_48 (x := v5) rfl ?_
    refine x_iald C nM7 kM7 dX12_plan_50 ?_
    refine x_ldc C dX12_plan_51 (v := (100000000 : Int32)) cn_X12_251 ?_
    refine x_icmpne C dX12_plan_53 (tgt := 58) (by decide) (fun _h => ?_) (fun _h => ?_)
    · refine x_iloadn C dX12_plan_58 (x := p3) rfl ?_
      refine x_ifne C dX12_plan_59 (tgt := 72) (by decide) (fun _h => ?_) (fun _h => ?_)
      · refine x_aloadn C dX12_plan_72 rfl ?_
        refine x_getR C fl_X12_32 cl_11 (7) nM0 kM0 fM0_15 dX12_plan_73 ?_
        refine x_iload C dX12_plan_76 (x := v5) rfl ?_
        refine x_iald C nM7 kM7 dX12_plan_78 ?_
        exact x_iret C dX12_plan_79 rfl
      · refine x_aloadn C dX12_plan_62 rfl ?_
        refine x_getR C fl_X12_29 cl_11 (6) nM0 kM0 fM0_14 dX12_plan_63 ?_
        refine x_iload C dX12_plan_66 (x := v5) rfl ?_
        refine x_iald C nM6 kM6 dX12_plan_68 ?_
        refine x_goto C dX12_plan_69 (tgt := 79) (by decide) ?_
        exact x_iret C dX12_plan_79 rfl
    · refine x_iconst C dX12_plan_56 (v := (-1 : Int32)) (by decide) ?_
      exact x_iret C dX12_plan_57 rfl
  · refine x_iconst C dX12_plan_25 (v := (0 : Int32)) (by decide) ?_
    exact x_iret C dX12_plan_26 rfl
set_option maxHeartbeats 4000000 in
set_option maxRecDepth 20000 in
theorem c_md_plan {l : Launch} {g : GG} {b : Nat} (p1 : Int32) (p2 : Int32) (p3 : Int32) (M : Mem) : CT l g (wM b) (rmd 9) yX12_plan cX12_plan 5 (some .int) [.ref ((wM b).2.2.2 + 0), .int p1, .int p2, .int p3] M finM (md_plan p1 p2 p3 M) := by
  refine CT.of rfl (Nat.le_of_ble_eq_true rfl) (catc rfl (catc rfl (catc rfl (catc rfl cat0)))) (fun z C => ?_)
  have C : Cx z l g (wM b) (rmd 9) cX12_plan 5 RX12 (some .int) := C
  refine x_wk (L' := [some (.ref ((wM b).2.2.2 + 0)), some (.int p1), some (.int p2), some (.int p3), none]) (And.intro rfl (And.intro rfl (And.intro rfl (And.intro rfl trivial)))) ?_
  rw [md_plan]
  refine x_aloadn C dX12_plan_0 rfl ?_
  refine x_iloadn C dX12_plan_1 (x := p3) rfl ?_
  refine x_iconst C dX12_plan_2 (v := (0 : Int32)) (by decide) ?_
  refine x_iconst C dX12_plan_3 (v := (1 : Int32)) (by decide) ?_
  refine x_Si (st := [.ref ((wM b).2.2.2 + 0)]) C (c_md_isIn  (p3) ((0 : Int32)) ((1 : Int32)) M) lk_X12_62 rfl rfl (Nat.le_of_ble_eq_true rfl) (rmok_d (by decide) (by decide)) ⟨Nat.zero_le _, Nat.zero_le _⟩ dX12_plan_4 (fun v1 => ?_)
  refine x_ifne C dX12_plan_7 (tgt := 14) (by decide) (fun _h => ?_) (fun _h => ?_)
  · refine x_iconst C dX12_plan_14 (v := (0 : Int32)) (by decide) ?_
    exact x_wk (L' := [some (.ref ((wM b).2.2.2 + 0)), some (.int p1), some (.int p2), some (.int p3), none]) (And.intro rfl (And.intro rfl (And.intro rfl (And.intro rfl trivial)))) (w_md_plan_J15 C p1 p2 p3   ((0 : Int32)) M)
  · refine x_iconst C dX12_plan_10 (v := (1 : Int32)) (by decide) ?_
    refine x_goto C dX12_plan_11 (tgt := 15) (by decide) ?_
    exact x_wk (L' := [some (.ref ((wM b).2.2.2 + 0)), some (.int p1), some (.int p2), some (.int p3), none]) (And.intro rfl (And.intro rfl (And.intro rfl (And.intro rfl trivial)))) (w_md_plan_J15 C p1 p2 p3   ((1 : Int32)) M)
def md_moveFrom_J37 (p1 : Int32) (rec : Int32 → Mem → Option (Int32 × Mem)) (K : Mem → Option (Int32 × Mem)) (x2 : Int32) (M : Mem) : Option (Int32 × Mem) := bnd2 (md_behind (p1) (x2) M) fun v2 M1 => (if v2 = (-1 : Int32) then rec ((x2 + (1 : Int32))) (M1) else chk (inb v2 2048) (chk (inb p1 2048) ((if ((M1 6 v2.toNatClampNeg) + (M1 0 17)) = (M1 6 p1.toNatClampNeg) then chk (inb v2 2048) (chk (inb p1 2048) ((if ((M1 7 v2.toNatClampNeg) + (1 : Int32)) = (M1 7 p1.toNatClampNeg) then some (x2, M1) else rec ((x2 + (1 : Int32))) (M1)))) else rec ((x2 + (1 : Int32))) (M1)))))
def md_moveFrom_L2 (p1 : Int32) (K : Mem → Option (Int32 × Mem)) : Nat → Int32 → Mem → Option (Int32 × Mem)
  | 0, _, _ => none
  | fu + 1, x2, M => (if x2 < ((1024 : Int32) + (M 1 1)) then (if x2 < (1024 : Int32) then (md_everybody M).bind fun v3 => (if (x2 &&& (v3 ^^^ (-1 : Int32))) = 0 then md_moveFrom_J37 p1 (fun a2 aM => md_moveFrom_L2 p1 K fu a2 aM) K (x2) M else md_moveFrom_L2 p1 K fu ((x2 + (1 : Int32))) (M)) else md_moveFrom_J37 p1 (fun a2 aM => md_moveFrom_L2 p1 K fu a2 aM) K (x2) M) else K (M))
def md_moveFrom (p1 : Int32) (M : Mem) : Option (Int32 × Mem) := md_moveFrom_L2 p1 (fun M5 => some ((-1 : Int32), M5)) FU ((0 : Int32)) M
set_option maxHeartbeats 4000000 in
set_option maxRecDepth 20000 in
theorem w_md_moveFrom_J37 {z : ZT} {l : Launch} {g : GG} {b : Nat} (C : Cx z l g (wM b) (rmd 6) cX12_moveFrom 4 RX12 (some .int)) (p1 : Int32)  {rec : Int32 → Mem → Option (Int32 × Mem)} (hrec : ∀ (u2 : Int32) (M : Mem) , XG z g (wM b) 4 (ZQ z g (wM b) finM) 0 0 2 [some (.ref ((wM b).2.2.2 + 0)), some (.int p1), some (.int u2), none] [] M (rec u2 M)) {K : Mem → Option (Int32 × Mem)} (hK : ∀ (M : Mem) , XG z g (wM b) 4 (ZQ z g (wM b) finM) 0 0 94 [none, none, none, none] [] M (K  M)) (x2 : Int32) (M : Mem) : XG z g (wM b) 4 (ZQ z g (wM b) finM) 0 0 37 [some (.ref ((wM b).2.2.2 + 0)), some (.int p1), some (.int x2), none] [] M (md_moveFrom_J37 p1 rec K x2 M) := by
  rw [md_moveFrom_J37]
  refine x_aloadn C dX12_moveFrom_37 rfl ?_
  refine x_iloadn C dX12_moveFrom_38 (x := p1) rfl ?_
  refine x_iloadn C dX12_moveFrom_39 (x := x2) rfl ?_
  refine x_Vm (st := []) C (c_md_behind  (p1) (x2) M) lk_X12_260 nM0 kM0 ⟨_, _, rfl⟩ rfl rfl (Nat.le_of_ble_eq_true rfl) (rmok_d (by decide) (by decide)) ⟨Nat.zero_le _, Nat.zero_le _⟩ dX12_moveFrom_40 (fun v2 M1 => ?_)
  refine x_istoren C dX12_moveFrom_43 (L' := [some (.ref ((wM b).2.2.2 + 0)), some (.int p1), some (.int x2), some (.int v2)]) (ltb rfl) rfl ?_
  refine x_iloadn C dX12_moveFrom_44 (x := v2) rfl ?_
  refine x_iconst C dX12_moveFrom_45 (v := (-1 : Int32)) (by decide) ?_
  refine x_icmpeq C dX12_moveFrom_46 (tgt := 88) (by decide) (fun _h => ?_) (fun _h => ?_)
  · refine x_iinc C dX12_moveFrom_88 (v := (x2 + (1 : Int32))) rfl rfl (L' := [some (.ref ((wM b).2.2.2 + 0)), some (.int p1), some (.int (x2 + (1 : Int32))), some (.int v2)]) rfl ?_
    refine x_goto C dX12_moveFrom_91 (tgt := 2) (by decide) ?_
    exact x_wk (L' := [some (.ref ((wM b).2.2.2 + 0)), some (.int p1), some (.int (x2 + (1 : Int32))), none]) (And.intro rfl (And.intro rfl (And.intro rfl trivial))) (hrec ((x2 + (1 : Int32))) (M1))
  · refine x_aloadn C dX12_moveFrom_49 rfl ?_
    refine x_getR C fl_X12_29 cl_11 (6) nM0 kM0 fM0_14 dX12_moveFrom_50 ?_
    refine x_iloadn C dX12_moveFrom_53 (x := v2) rfl ?_
    refine x_iald C nM6 kM6 dX12_moveFrom_54 ?_
    refine x_aloadn C dX12_moveFrom_55 rfl ?_
    refine x_getI C fl_X12_226 cl_11 nM0 kM0 fM0_17 dX12_moveFrom_56 ?_
    refine x_iadd C dX12_moveFrom_59 ?_
    refine x_aloadn C dX12_moveFrom_60 rfl ?_
    refine x_getR C fl_X12_29 cl_11 (6) nM0 kM0 fM0_14 dX12_moveFrom_61 ?_
    refine x_iloadn C dX12_moveFrom_64 (x := p1) rfl ?_
    refine x_iald C nM6 kM6 dX12_moveFrom_65 ?_
    refine x_icmpne C dX12_moveFrom_66 (tgt := 88) (by decide) (fun _h => ?_) (fun _h => ?_)
    · refine x_iinc C dX12_moveFrom_88 (v := (x2 + (1 : Int32))) rfl rfl (L' := [some (.ref ((wM b).2.2.2 + 0)), some (.int p1), some (.int (x2 + (1 : Int32))), some (.int v2)]) rfl ?_
      refine x_goto C dX12_moveFrom_91 (tgt := 2) (by decide) ?_
      exact x_wk (L' := [some (.ref ((wM b).2.2.2 + 0)), some (.int p1), some (.int (x2 + (1 : Int32))), none]) (And.intro rfl (And.intro rfl (And.intro rfl trivial))) (hrec ((x2 + (1 : Int32))) (M1))
    · refine x_aloadn C dX12_moveFrom_69 rfl ?_
      refine x_getR C fl_X12_32 cl_11 (7) nM0 kM0 fM0_15 dX12_moveFrom_70 ?_
      refine x_iloadn C dX12_moveFrom_73 (x := v2) rfl ?_
      refine x_iald C nM7 kM7 dX12_moveFrom_74 ?_
      refine x_iconst C dX12_moveFrom_75 (v := (1 : Int32)) (by decide) ?_
      refine x_iadd C dX12_moveFrom_76 ?_
      refine x_aloadn C dX12_moveFrom_77 rfl ?_
      refine x_getR C fl_X12_32 cl_11 (7) nM0 kM0 fM0_15 dX12_moveFrom_78 ?_
      refine x_iloadn C dX12_moveFrom_81 (x := p1) rfl ?_
      refine x_iald C nM7 kM7 dX12_moveFrom_82 ?_
      refine x_icmpne C dX12_moveFrom_83 (tgt := 88) (by decide) (fun _h => ?_) (fun _h => ?_)
      · refine x_iinc C dX12_moveFrom_88 (v := (x2 + (1 : Int32))) rfl rfl (L' := [some (.ref ((wM b).2.2.2 + 0)), some (.int p1), some (.int (x2 + (1 : Int32))), some (.int v2)]) rfl ?_
        refine x_goto C dX12_moveFrom_91 (tgt := 2) (by decide) ?_
        exact x_wk (L' := [some (.ref ((wM b).2.2.2 + 0)), some (.int p1), some (.int (x2 + (1 : Int32))), none]) (And.intro rfl (And.intro rfl (And.intro rfl trivial))) (hrec ((x2 + (1 : Int32))) (M1))
      · refine x_iloadn C dX12_moveFrom_86 (x := x2) rfl ?_
        exact x_iret C dX12_moveFrom_87 rfl
set_option maxHeartbeats 4000000 in
set_option maxRecDepth 20000 in
theorem w_md_moveFrom_L2 {z : ZT} {l : Launch} {g : GG} {b : Nat} (C : Cx z l g (wM b) (rmd 6) cX12_moveFrom 4 RX12 (some .int)) (p1 : Int32) {K : Mem → Option (Int32 × Mem)} (hK : ∀ (M : Mem) , XG z g (wM b) 4 (ZQ z g (wM b) finM) 0 0 94 [none, none, none, none] [] M (K M)) : ∀ (fu : Nat) (x2 : Int32) (M : Mem), XG z g (wM b) 4 (ZQ z g (wM b) finM) 0 0 2 [some (.ref ((wM b).2.2.2 + 0)), some (.int p1), some (.int x2), none] [] M (md_moveFrom_L2 p1 K fu x2 M) := by
  intro fu
  induction fu with
  | zero => intro x2 M; exact x_none
  | succ fu ih =>
    intro x2 M
    rw [md_moveFrom_L2]
    refine x_iloadn C dX12_moveFrom_2 (x := x2) rfl ?_
    refine x_sipush C dX12_moveFrom_3 (v := (1024 : Int32)) (by decide) ?_
    refine x_aloadn C dX12_moveFrom_6 rfl ?_
    refine x_getR C fl_X12_7 cl_11 (1) nM0 kM0 fM0_1 dX12_moveFrom_7 ?_
    refine x_iconst C dX12_moveFrom_10 (v := (1 : Int32)) (by decide) ?_
    refine x_ialdj C nM1 kM1 (j := 1) (by decide) (by decide) dX12_moveFrom_11 ?_
    refine x_iadd C dX12_moveFrom_12 ?_
    refine x_icmpge C dX12_moveFrom_13 (tgt := 94) (by decide) (fun _h => ?_) (fun _h => ?_)
    · exact x_wk (L' := [none, none, none, none]) (trivial) (hK (M))
    · refine x_iloadn C dX12_moveFrom_16 (x := x2) rfl ?_
      refine x_sipush C dX12_moveFrom_17 (v := (1024 : Int32)) (by decide) ?_
      refine x_icmpge C dX12_moveFrom_20 (tgt := 37) (by decide) (fun _h => ?_) (fun _h => ?_)
      · exact x_wk (L' := [some (.ref ((wM b).2.2.2 + 0)), some (.int p1), some (.int x2), none]) (And.intro rfl (And.intro rfl (And.intro rfl trivial))) (w_md_moveFrom_J37 C p1  ih hK (x2)  M)
      · refine x_iloadn C dX12_moveFrom_23 (x := x2) rfl ?_
        refine x_aloadn C dX12_moveFrom_24 rfl ?_
        refine x_Vi (st := [.int x2]) C (c_md_everybody   M) lk_X12_208 nM0 kM0 ⟨_, _, rfl⟩ rfl rfl (Nat.le_of_ble_eq_true rfl) (rmok_d (by decide) (by decide)) ⟨Nat.zero_le _, Nat.zero_le _⟩ dX12_moveFrom_25 (fun v3 => ?_)
        refine x_iconst C dX12_moveFrom_28 (v := (-1 : Int32)) (by decide) ?_
        refine x_ixor C dX12_moveFrom_29 ?_
        refine x_iand C dX12_moveFrom_30 ?_
        refine x_ifeq C dX12_moveFrom_31 (tgt := 37) (by decide) (fun _h => ?_) (fun _h => ?_)
        · exact x_wk (L' := [some (.ref ((wM b).2.2.2 + 0)), some (.int p1), some (.int x2), none]) (And.intro rfl (And.intro rfl (And.intro rfl trivial))) (w_md_moveFrom_J37 C p1  ih hK (x2)  M)
        · refine x_goto C dX12_moveFrom_34 (tgt := 88) (by decide) ?_
          refine x_iinc C dX12_moveFrom_88 (v := (x2 + (1 : Int32))) rfl rfl (L' := [some (.ref ((wM b).2.2.2 + 0)), some (.int p1), some (.int (x2 + (1 : Int32))), none]) rfl ?_
          refine x_goto C dX12_moveFrom_91 (tgt := 2) (by decide) ?_
          exact x_wk (L' := [some (.ref ((wM b).2.2.2 + 0)), some (.int p1), some (.int (x2 + (1 : Int32))), none]) (And.intro rfl (And.intro rfl (And.intro rfl trivial))) (ih ((x2 + (1 : Int32))) (M))
set_option maxHeartbeats 4000000 in
set_option maxRecDepth 20000 in
theorem c_md_moveFrom {l : Launch} {g : GG} {b : Nat} (p1 : Int32) (M : Mem) : CT l g (wM b) (rmd 6) yX12_moveFrom cX12_moveFrom 4 (some .int) [.ref ((wM b).2.2.2 + 0), .int p1] M finM (md_moveFrom p1 M) := by
  refine CT.of rfl (Nat.le_of_ble_eq_true rfl) (catc rfl (catc rfl cat0)) (fun z C => ?_)
  have C : Cx z l g (wM b) (rmd 6) cX12_moveFrom 4 RX12 (some .int) := C
  refine x_wk (L' := [some (.ref ((wM b).2.2.2 + 0)), some (.int p1), none, none]) (And.intro rfl (And.intro rfl trivial)) ?_
  rw [md_moveFrom]
  refine x_iconst C dX12_moveFrom_0 (v := (0 : Int32)) (by decide) ?_
  refine x_istoren C dX12_moveFrom_1 (L' := [some (.ref ((wM b).2.2.2 + 0)), some (.int p1), some (.int (0 : Int32)), none]) (ltb rfl) rfl ?_
  refine x_wk (L' := [some (.ref ((wM b).2.2.2 + 0)), some (.int p1), some (.int (0 : Int32)), none]) (And.intro rfl (And.intro rfl (And.intro rfl trivial))) (w_md_moveFrom_L2 C p1   (fun M5 => ?_) FU ((0 : Int32)) M)
  refine x_iconst C dX12_moveFrom_94 (v := (-1 : Int32)) (by decide) ?_
  exact x_iret C dX12_moveFrom_95 rfl
def md_row_L64 (p1 : Int32) (p2 : Int32) (p3 : Int32) (K : Int32 → Mem → Option (Int32 × Mem)) : Nat → Int32 → Int32 → Int32 → Mem → Option (Int32 × Mem)
  | 0, _, _, _, _ => none
  | fu + 1, x4, x5, x6, M => (if x6 < p3 then bnd2 (md_behind (x4) (x5) M) fun v9 M8 => bnd2 (md_moveFrom (v9) M8) fun v11 M10 => md_row_L64 p1 p2 p3 K fu (v9) (v11) ((x6 + (1 : Int32))) (M10) else K (x5) (M))
def md_row (p1 : Int32) (p2 : Int32) (p3 : Int32) (M : Mem) : Option (Int32 × Mem) := lt1 (wr M 0 0 (0 : Int32)) fun M1 => (md_everybody M1).bind fun v2 => (md_costs ((p1 &&& v2)) (p2) M1).bind fun M3 => (md_stateNow M3).bind fun v4 => chk (inb v4 2048) ((if (M3 7 v4.toNatClampNeg) = (100000000 : Int32) then some ((-1 : Int32), M3) else chk (inb v4 2048) ((md_isIn (p3) ((0 : Int32)) (((M3 7 v4.toNatClampNeg) - (1 : Int32))) M3).bind fun v5 => (if v5 = 0 then some ((-1 : Int32), M3) else bnd2 (md_moveFrom (v4) M3) fun v7 M6 => md_row_L64 p1 p2 p3 (fun v5_11 M13 => some (v5_11, M13)) FU (v4) (v7) ((0 : Int32)) M6))))
set_option maxHeartbeats 4000000 in
set_option maxRecDepth 20000 in
theorem w_md_row_L64 {z : ZT} {l : Launch} {g : GG} {b : Nat} (C : Cx z l g (wM b) (rmd 9) cX12_row 7 RX12 (some .int)) (p1 : Int32) (p2 : Int32) (p3 : Int32) {K : Int32 → Mem → Option (Int32 × Mem)} (hK : ∀ (x5 : Int32) (M : Mem) , XG z g (wM b) 7 (ZQ z g (wM b) finM) 0 0 94 [none, none, none, none, none, some (.int x5), none] [] M (K x5 M)) : ∀ (fu : Nat) (x4 : Int32) (x5 : Int32) (x6 : Int32) (M : Mem), XG z g (wM b) 7 (ZQ z g (wM b) finM) 0 0 64 [some (.ref ((wM b).2.2.2 + 0)), none, none, some (.int p3), some (.int x4), some (.int x5), some (.int x6)] [] M (md_row_L64 p1 p2 p3 K fu x4 x5 x6 M) := by
  intro fu
  induction fu with
  | zero => intro x4 x5 x6 M; exact x_none
  | succ fu ih =>
    intro x4 x5 x6 M
    rw [md_row_L64]
    refine x_iload C dX12_row_64 (x := x6) rfl ?_
    refine x_iloadn C dX12_row_66 (x := p3) rfl ?_
    refine x_icmpge C dX12_row_67 (tgt := 94) (by decide) (fun _h => ?_) (fun _h => ?_)
    · exact x_wk (L' := [none, none, none, none, none, some (.int x5), none]) (And.intro rfl trivial) (hK (x5) (M))
    · refine x_aloadn C dX12_row_70 rfl ?_
      refine x_iload C dX12_row_71 (x := x4) rfl ?_
      refine x_iload C dX12_row_73 (x := x5) rfl ?_
      refine x_Vm (st := []) C (c_md_behind  (x4) (x5) M) lk_X12_260 nM0 kM0 ⟨_, _, rfl⟩ rfl rfl (Nat.le_of_ble_eq_true rfl) (rmok_d (by decide) (by decide)) ⟨Nat.zero_le _, Nat.zero_le _⟩ dX12_row_75 (fun v9 M8 => ?_)
      refine x_istore C dX12_row_78 (L' := [some (.ref ((wM b).2.2.2 + 0)), none, none, some (.int p3), some (.int v9), some (.int x5), some (.int x6)]) (ltb rfl) rfl ?_
      refine x_aloadn C dX12_row_80 rfl ?_
      refine x_iload C dX12_row_81 (x := v9) rfl ?_
      refine x_Vm (st := []) C (c_md_moveFrom  (v9) M8) lk_X12_274 nM0 kM0 ⟨_, _, rfl⟩ rfl rfl (Nat.le_of_ble_eq_true rfl) (rmok_d (by decide) (by decide)) ⟨Nat.zero_le _, Nat.zero_le _⟩ dX12_row_83 (fun v11 M10 => ?_)
      refine x_istore C dX12_row_86 (L' := [some (.ref ((wM b).2.2.2 + 0)), none, none, some (.int p3), some (.int v9), some (.int v11), some (.int x6)]) (ltb rfl) rfl ?_
      refine x_iinc C dX12_row_88 (v := (x6 + (1 : Int32))) rfl rfl (L' := [some (.ref ((wM b).2.2.2 + 0)), none, none, some (.int p3), some (.int v9), some (.int v11), some (.int (x6 + (1 : Int32)))]) rfl ?_
      refine x_goto C dX12_row_91 (tgt := 64) (by decide) ?_
      exact x_wk (L' := [some (.ref ((wM b).2.2.2 + 0)), none, none, some (.int p3), some (.int v9), some (.int v11), some (.int (x6 + (1 : Int32)))]) (And.intro rfl (And.intro rfl (And.intro rfl (And.intro rfl (And.intro rfl trivial))))) (ih (v9) (v11) ((x6 + (1 : Int32))) (M10))
set_option maxHeartbeats 4000000 in
set_option maxRecDepth 20000 in
theorem c_md_row {l : Launch} {g : GG} {b : Nat} (p1 : Int32) (p2 : Int32) (p3 : Int32) (M : Mem) : CT l g (wM b) (rmd 9) yX12_row cX12_row 7 (some .int) [.ref ((wM b).2.2.2 + 0), .int p1, .int p2, .int p3] M finM (md_row p1 p2 p3 M) := by
  refine CT.of rfl (Nat.le_of_ble_eq_true rfl) (catc rfl (catc rfl (catc rfl (catc rfl cat0)))) (fun z C => ?_)
  have C : Cx z l g (wM b) (rmd 9) cX12_row 7 RX12 (some .int) := C
  refine x_wk (L' := [some (.ref ((wM b).2.2.2 + 0)), some (.int p1), some (.int p2), some (.int p3), none, none, none]) (And.intro rfl (And.intro rfl (And.intro rfl (And.intro rfl trivial)))) ?_
  rw [md_row]
  refine x_aloadn C dX12_row_0 rfl ?_
  refine x_iconst C dX12_row_1 (v := (0 : Int32)) (by decide) ?_
  refine x_putI C fl_X12_59 cl_11 fint_11_0 nM0 kM0 fM0_0 dX12_row_2 ?_
  refine x_ltM (fun M1 => ?_)
  refine x_aloadn C dX12_row_5 rfl ?_
  refine x_iloadn C dX12_row_6 (x := p1) rfl ?_
  refine x_aloadn C dX12_row_7 rfl ?_
  refine x_Vi (st := [.int p1, .ref ((wM b).2.2.2 + 0)]) C (c_md_everybody   M1) lk_X12_208 nM0 kM0 ⟨_, _, rfl⟩ rfl rfl (Nat.le_of_ble_eq_true rfl) (rmok_d (by decide) (by decide)) ⟨Nat.zero_le _, Nat.zero_le _⟩ dX12_row_8 (fun v2 => ?_)
  refine x_iand C dX12_row_11 ?_
  refine x_iloadn C dX12_row_12 (x := p2) rfl ?_
  refine x_Vv (st := []) C (c_md_costs  ((p1 &&& v2)) (p2) M1) lk_X12_267 nM0 kM0 ⟨_, _, rfl⟩ rfl rfl (Nat.le_of_ble_eq_true rfl) (rmok_d (by decide) (by decide)) ⟨Nat.zero_le _, Nat.zero_le _⟩ dX12_row_13 (fun M3 => ?_)
  refine x_aloadn C dX12_row_16 rfl ?_
  refine x_Vi (st := []) C (c_md_stateNow   M3) lk_X12_271 nM0 kM0 ⟨_, _, rfl⟩ rfl rfl (Nat.le_of_ble_eq_true rfl) (rmok_d (by decide) (by decide)) ⟨Nat.zero_le _, Nat.zero_le _⟩ dX12_row_17 (fun v4 => ?_)
  refine x_istore C dX12_row_20 (L' := [some (.ref ((wM b).2.2.2 + 0)), some (.int p1), some (.int p2), some (.int p3), some (.int v4), none, none]) (ltb rfl) rfl ?_
  refine x_aloadn C dX12_row_22 rfl ?_
  refine x_getR C fl_X12_32 cl_11 (7) nM0 kM0 fM0_15 dX12_row_23 ?_
  refine x_iload C dX12_row_26 (x := v4) rfl ?_
  refine x_iald C nM7 kM7 dX12_row_28 ?_
  refine x_ldc C dX12_row_29 (v := (100000000 : Int32)) cn_X12_251 ?_
  refine x_icmpeq C dX12_row_31 (tgt := 51) (by decide) (fun _h => ?_) (fun _h => ?_)
  · refine x_iconst C dX12_row_51 (v := (-1 : Int32)) (by decide) ?_
    exact x_iret C dX12_row_52 rfl
  · refine x_iloadn C dX12_row_34 (x := p3) rfl ?_
    refine x_iconst C dX12_row_35 (v := (0 : Int32)) (by decide) ?_
    refine x_aloadn C dX12_row_36 rfl ?_
    refine x_getR C fl_X12_32 cl_11 (7) nM0 kM0 fM0_15 dX12_row_37 ?_
    refine x_iload C dX12_row_40 (x := v4) rfl ?_
    refine x_iald C nM7 kM7 dX12_row_42 ?_
    refine x_iconst C dX12_row_43 (v := (1 : Int32)) (by decide) ?_
    refine x_isub C dX12_row_44 ?_
    refine x_Si (st := []) C (c_md_isIn  (p3) ((0 : Int32)) (((M3 7 v4.toNatClampNeg) - (1 : Int32))) M3) lk_X12_62 rfl rfl (Nat.le_of_ble_eq_true rfl) (rmok_d (by decide) (by decide)) ⟨Nat.zero_le _, Nat.zero_le _⟩ dX12_row_45 (fun v5 => ?_)
    refine x_ifne C dX12_row_48 (tgt := 53) (by decide) (fun _h => ?_) (fun _h => ?_)
    · refine x_aloadn C dX12_row_53 rfl ?_
      refine x_iload C dX12_row_54 (x := v4) rfl ?_
      refine x_Vm (st := []) C (c_md_moveFrom  (v4) M3) lk_X12_274 nM0 kM0 ⟨_, _, rfl⟩ rfl rfl (Nat.le_of_ble_eq_true rfl) (rmok_d (by decide) (by decide)) ⟨Nat.zero_le _, Nat.zero_le _⟩ dX12_row_56 (fun v7 M6 => ?_)
      refine x_istore C dX12_row_59 (L' := [some (.ref ((wM b).2.2.2 + 0)), some (.int p1), some (.int p2), some (.int p3), some (.int v4), some (.int v7), none]) (ltb rfl) rfl ?_
      refine x_iconst C dX12_row_61 (v := (0 : Int32)) (by decide) ?_
      refine x_istore C dX12_row_62 (L' := [some (.ref ((wM b).2.2.2 + 0)), some (.int p1), some (.int p2), some (.int p3), some (.int v4), some (.int v7), some (.int (0 : Int32))]) (ltb rfl) rfl ?_
      refine x_wk (L' := [some (.ref ((wM b).2.2.2 + 0)), none, none, some (.int p3), some (.int v4), some (.int v7), some (.int (0 : Int32))]) (And.intro rfl (And.intro rfl (And.intro rfl (And.intro rfl (And.intro rfl trivial))))) (w_md_row_L64 C p1 p2 p3   (fun v5_11 M13 => ?_) FU (v4) (v7) ((0 : Int32)) M6)
      refine x_iload C dX12_row_94 (x := v5_11) rfl ?_
      exact x_iret C dX12_row_96 rfl
    · refine x_iconst C dX12_row_51 (v := (-1 : Int32)) (by decide) ?_
      exact x_iret C dX12_row_52 rfl
def md_left_L16 (y1 : Int32) (K : Mem → Option (Int32 × Mem)) : Nat → Int32 → Mem → Option (Int32 × Mem)
  | 0, _, _ => none
  | fu + 1, x2, M => (if x2 < y1 then chk (inb x2 2048) (lt1 (wr M 8 x2.toNatClampNeg (0 : Int32)) fun M2 => md_left_L16 y1 K fu ((x2 + (1 : Int32))) (M2)) else K (M))
def md_left_J122 (rec : Int32 → Mem → Option (Int32 × Mem)) (K : Mem → Option (Int32 × Mem)) (x1 : Int32) (x2 : Int32) (x3 : Int32) (x4 : Int32) (M : Mem) : Option (Int32 × Mem) := bnd2 (md_behind (x3) (x4) M) fun v9 M8 => (if v9 = (-1 : Int32) then rec ((x4 + (1 : Int32))) (M8) else chk (inb v9 2048) ((if (M8 8 v9.toNatClampNeg) = 0 then chk (inb v9 2048) (lt1 (wr M8 8 v9.toNatClampNeg (1 : Int32)) fun M10 => rec ((x4 + (1 : Int32))) (M10)) else rec ((x4 + (1 : Int32))) (M8))))
def md_left_L84 (y1 : Int32) (y2 : Int32) (y3 : Int32) (K : Mem → Option (Int32 × Mem)) : Nat → Int32 → Mem → Option (Int32 × Mem)
  | 0, _, _ => none
  | fu + 1, x4, M => (if x4 < ((1024 : Int32) + (M 1 1)) then (if x4 < (1024 : Int32) then (md_everybody M).bind fun v11 => (if (x4 &&& (v11 ^^^ (-1 : Int32))) = 0 then md_left_J122 (fun a4 aM => md_left_L84 y1 y2 y3 K fu a4 aM) K (y1) (y2) (y3) (x4) M else md_left_L84 y1 y2 y3 K fu ((x4 + (1 : Int32))) (M)) else md_left_J122 (fun a4 aM => md_left_L84 y1 y2 y3 K fu a4 aM) K (y1) (y2) (y3) (x4) M) else K (M))
def md_left_L54 (y1 : Int32) (K : Int32 → Mem → Option (Int32 × Mem)) : Nat → Int32 → Int32 → Mem → Option (Int32 × Mem)
  | 0, _, _, _ => none
  | fu + 1, x2, x3, M => (if x3 < y1 then chk (inb x3 2048) ((if (M 8 x3.toNatClampNeg) = (1 : Int32) then chk (inb x3 2048) (lt1 (wr M 8 x3.toNatClampNeg (2 : Int32)) fun M7 => md_left_L84 (y1) ((1 : Int32)) (x3) (fun M13 => md_left_L54 y1 K fu ((1 : Int32)) ((x3 + (1 : Int32))) (M13)) FU ((0 : Int32)) M7) else md_left_L54 y1 K fu (x2) ((x3 + (1 : Int32))) (M))) else K (x2) (M))
def md_left_L46 (y1 : Int32) (K : Mem → Option (Int32 × Mem)) : Nat → Int32 → Mem → Option (Int32 × Mem)
  | 0, _, _ => none
  | fu + 1, x2, M => (if x2 = 0 then K (M) else md_left_L54 (y1) (fun v2_13 M15 => md_left_L46 y1 K fu (v2_13) (M15)) FU ((0 : Int32)) ((0 : Int32)) M)
def md_left_L227 (y3 : Int32) (y4 : Int32) (y5 : Int32) (M : Mem) (K : Int32 → Option (Int32 × Mem)) : Nat → Int32 → Int32 → Option (Int32 × Mem)
  | 0, _, _ => none
  | fu + 1, x6, x7 => (if x7 < (M 1 1) then (md_isOf (y5) (x7) M).bind fun v19 => (if v19 = 0 then md_left_L227 y3 y4 y5 M K fu ((x6 + (1 : Int32))) ((x7 + (1 : Int32))) else md_left_L227 y3 y4 y5 M K fu ((x6 + (0 : Int32))) ((x7 + (1 : Int32)))) else K (x6))
def md_left_J221 (rec : Int32 → Int32 → Int32 → Option (Int32 × Mem)) (K : Int32 → Option (Int32 × Mem)) (x3 : Int32) (x4 : Int32) (x5 : Int32) (M : Mem) : Option (Int32 × Mem) := md_left_L227 (x3) (x4) (x5) M (fun v6_19 => (md_everybody M).bind fun v21 => (if x3 = (-1 : Int32) then rec ((v21 &&& (x5 ^^^ (-1 : Int32)))) (v6_19) ((x5 + (-1 : Int32))) else (if x4 < v6_19 then rec (x3) (x4) ((x5 + (-1 : Int32))) else (if v6_19 = x4 then (if x3 < (v21 &&& (x5 ^^^ (-1 : Int32))) then rec (x3) (x4) ((x5 + (-1 : Int32))) else rec ((v21 &&& (x5 ^^^ (-1 : Int32)))) (v6_19) ((x5 + (-1 : Int32)))) else rec ((v21 &&& (x5 ^^^ (-1 : Int32)))) (v6_19) ((x5 + (-1 : Int32))))))) FU ((0 : Int32)) ((0 : Int32))
def md_left_L187 (M : Mem) (K : Int32 → Option (Int32 × Mem)) : Nat → Int32 → Int32 → Int32 → Option (Int32 × Mem)
  | 0, _, _, _ => none
  | fu + 1, x3, x4, x5 => (if x5 < 0 then K (x3) else chk (inb ((2 : Int32) * x5) 2048) ((if (M 8 ((2 : Int32) * x5).toNatClampNeg) = 0 then chk (inb (((2 : Int32) * x5) + (1 : Int32)) 2048) ((if (M 8 (((2 : Int32) * x5) + (1 : Int32)).toNatClampNeg) = 0 then md_left_L187 M K fu (x3) (x4) ((x5 + (-1 : Int32))) else md_left_J221 (fun a3 a4 a5 => md_left_L187 M K fu a3 a4 a5) K (x3) (x4) (x5) M)) else md_left_J221 (fun a3 a4 a5 => md_left_L187 M K fu a3 a4 a5) K (x3) (x4) (x5) M)))
def md_left (M : Mem) : Option (Int32 × Mem) := lt1 (wr M 0 0 (0 : Int32)) fun M1 => md_left_L16 (((2 : Int32) <<< ((M1 1 1) &&& 31))) (fun M4 => (md_stateNow M4).bind fun v5 => chk (inb v5 2048) (lt1 (wr M4 8 v5.toNatClampNeg (1 : Int32)) fun M6 => md_left_L46 (((2 : Int32) <<< ((M1 1 1) &&& 31))) (fun M17 => lt1 ((((1 : Int32) <<< ((M17 1 1) &&& 31)) - (1 : Int32))) fun v18 => md_left_L187 M17 (fun v3_21 => some (v3_21, M17)) FU ((-1 : Int32)) ((0 : Int32)) (v18)) FU ((1 : Int32)) M6)) FU ((0 : Int32)) M1
set_option maxHeartbeats 4000000 in
set_option maxRecDepth 20000 in
theorem w_md_left_L16 {z : ZT} {l : Launch} {g : GG} {b : Nat} (C : Cx z l g (wM b) (rmd 6) cX12_left 8 RX12 (some .int)) (y1 : Int32) {K : Mem → Option (Int32 × Mem)} (hK : ∀ (M : Mem) , XG z g (wM b) 8 (ZQ z g (wM b) finM) 0 0 34 [some (.ref ((wM b).2.2.2 + 0)), some (.int y1), none, none, none, none, none, none] [] M (K M)) : ∀ (fu : Nat) (x2 : Int32) (M : Mem), XG z g (wM b) 8 (ZQ z g (wM b) finM) 0 0 16 [some (.ref ((wM b).2.2.2 + 0)), some (.int y1), some (.int x2), none, none, none, none, none] [] M (md_left_L16 y1 K fu x2 M) := by
  intro fu
  induction fu with
  | zero => intro x2 M; exact x_none
  | succ fu ih =>
    intro x2 M
    rw [md_left_L16]
    refine x_iloadn C dX12_left_16 (x := x2) rfl ?_
    refine x_iloadn C dX12_left_17 (x := y1) rfl ?_
    refine x_icmpge C dX12_left_18 (tgt := 34) (by decide) (fun _h => ?_) (fun _h => ?_)
    · exact x_wk (L' := [some (.ref ((wM b).2.2.2 + 0)), some (.int y1), none, none, none, none, none, none]) (And.intro rfl (And.intro rfl trivial)) (hK (M))
    · refine x_aloadn C dX12_left_21 rfl ?_
      refine x_getR C fl_X12_35 cl_11 (8) nM0 kM0 fM0_16 dX12_left_22 ?_
      refine x_iloadn C dX12_left_25 (x := x2) rfl ?_
      refine x_iconst C dX12_left_26 (v := (0 : Int32)) (by decide) ?_
      refine x_iast C nM8 kM8 dX12_left_27 ?_
      refine x_ltM (fun M2 => ?_)
      refine x_iinc C dX12_left_28 (v := (x2 + (1 : Int32))) rfl rfl (L' := [some (.ref ((wM b).2.2.2 + 0)), some (.int y1), some (.int (x2 + (1 : Int32))), none, none, none, none, none]) rfl ?_
      refine x_goto C dX12_left_31 (tgt := 16) (by decide) ?_
      exact x_wk (L' := [some (.ref ((wM b).2.2.2 + 0)), some (.int y1), some (.int (x2 + (1 : Int32))), none, none, none, none, none]) (And.intro rfl (And.intro rfl (And.intro rfl trivial))) (ih ((x2 + (1 : Int32))) (M2))
set_option maxHeartbeats 4000000 in
set_option maxRecDepth 20000 in
theorem w_md_left_J122 {z : ZT} {l : Launch} {g : GG} {b : Nat} (C : Cx z l g (wM b) (rmd 6) cX12_left 8 RX12 (some .int))  (x1 : Int32) (x2 : Int32) (x3 : Int32) {rec : Int32 → Mem → Option (Int32 × Mem)} (hrec : ∀ (u4 : Int32) (M : Mem) , XG z g (wM b) 8 (ZQ z g (wM b) finM) 0 0 84 [some (.ref ((wM b).2.2.2 + 0)), some (.int x1), some (.int x2), some (.int x3), some (.int u4), none, none, none] [] M (rec u4 M)) {K : Mem → Option (Int32 × Mem)} (hK : ∀ (M : Mem) , XG z g (wM b) 8 (ZQ z g (wM b) finM) 0 0 161 [some (.ref ((wM b).2.2.2 + 0)), some (.int x1), some (.int x2), some (.int x3), none, none, none, none] [] M (K  M)) (x4 : Int32) (M : Mem) : XG z g (wM b) 8 (ZQ z g (wM b) finM) 0 0 122 [some (.ref ((wM b).2.2.2 + 0)), some (.int x1), some (.int x2), some (.int x3), some (.int x4), none, none, none] [] M (md_left_J122 rec K x1 x2 x3 x4 M) := by
  rw [md_left_J122]
  refine x_aloadn C dX12_left_122 rfl ?_
  refine x_iloadn C dX12_left_123 (x := x3) rfl ?_
  refine x_iload C dX12_left_124 (x := x4) rfl ?_
  refine x_Vm (st := []) C (c_md_behind  (x3) (x4) M) lk_X12_260 nM0 kM0 ⟨_, _, rfl⟩ rfl rfl (Nat.le_of_ble_eq_true rfl) (rmok_d (by decide) (by decide)) ⟨Nat.zero_le _, Nat.zero_le _⟩ dX12_left_126 (fun v9 M8 => ?_)
  refine x_istore C dX12_left_129 (L' := [some (.ref ((wM b).2.2.2 + 0)), some (.int x1), some (.int x2), some (.int x3), some (.int x4), some (.int v9), none, none]) (ltb rfl) rfl ?_
  refine x_iload C dX12_left_131 (x := v9) rfl ?_
  refine x_iconst C dX12_left_133 (v := (-1 : Int32)) (by decide) ?_
  refine x_icmpeq C dX12_left_134 (tgt := 155) (by decide) (fun _h => ?_) (fun _h => ?_)
  · refine x_iinc C dX12_left_155 (v := (x4 + (1 : Int32))) rfl rfl (L' := [some (.ref ((wM b).2.2.2 + 0)), some (.int x1), some (.int x2), some (.int x3), some (.int (x4 + (1 : Int32))), some (.int v9), none, none]) rfl ?_
    refine x_goto C dX12_left_158 (tgt := 84) (by decide) ?_
    exact x_wk (L' := [some (.ref ((wM b).2.2.2 + 0)), some (.int x1), some (.int x2), some (.int x3), some (.int (x4 + (1 : Int32))), none, none, none]) (And.intro rfl (And.intro rfl (And.intro rfl (And.intro rfl (And.intro rfl trivial))))) (hrec ((x4 + (1 : Int32))) (M8))
  · refine x_aloadn C dX12_left_137 rfl ?_
    refine x_getR C fl_X12_35 cl_11 (8) nM0 kM0 fM0_16 dX12_left_138 ?_
    refine x_iload C dX12_left_141 (x := v9) rfl ?_
    refine x_iald C nM8 kM8 dX12_left_143 ?_
    refine x_ifne C dX12_left_144 (tgt := 155) (by decide) (fun _h => ?_) (fun _h => ?_)
    · refine x_iinc C dX12_left_155 (v := (x4 + (1 : Int32))) rfl rfl (L' := [some (.ref ((wM b).2.2.2 + 0)), some (.int x1), some (.int x2), some (.int x3), some (.int (x4 + (1 : Int32))), some (.int v9), none, none]) rfl ?_
      refine x_goto C dX12_left_158 (tgt := 84) (by decide) ?_
      exact x_wk (L' := [some (.ref ((wM b).2.2.2 + 0)), some (.int x1), some (.int x2), some (.int x3), some (.int (x4 + (1 : Int32))), none, none, none]) (And.intro rfl (And.intro rfl (And.intro rfl (And.intro rfl (And.intro rfl trivial))))) (hrec ((x4 + (1 : Int32))) (M8))
    · refine x_aloadn C dX12_left_147 rfl ?_
      refine x_getR C fl_X12_35 cl_11 (8) nM0 kM0 fM0_16 dX12_left_148 ?_
      refine x_iload C dX12_left_151 (x := v9) rfl ?_
      refine x_iconst C dX12_left_153 (v := (1 : Int32)) (by decide) ?_
      refine x_iast C nM8 kM8 dX12_left_154 ?_
      refine x_ltM (fun M10 => ?_)
      refine x_iinc C dX12_left_155 (v := (x4 + (1 : Int32))) rfl rfl (L' := [some (.ref ((wM b).2.2.2 + 0)), some (.int x1), some (.int x2), some (.int x3), some (.int (x4 + (1 : Int32))), some (.int v9), none, none]) rfl ?_
      refine x_goto C dX12_left_158 (tgt := 84) (by decide) ?_
      exact x_wk (L' := [some (.ref ((wM b).2.2.2 + 0)), some (.int x1), some (.int x2), some (.int x3), some (.int (x4 + (1 : Int32))), none, none, none]) (And.intro rfl (And.intro rfl (And.intro rfl (And.intro rfl (And.intro rfl trivial))))) (hrec ((x4 + (1 : Int32))) (M10))
set_option maxHeartbeats 4000000 in
set_option maxRecDepth 20000 in
theorem w_md_left_L84 {z : ZT} {l : Launch} {g : GG} {b : Nat} (C : Cx z l g (wM b) (rmd 6) cX12_left 8 RX12 (some .int)) (y1 : Int32) (y2 : Int32) (y3 : Int32) {K : Mem → Option (Int32 × Mem)} (hK : ∀ (M : Mem) , XG z g (wM b) 8 (ZQ z g (wM b) finM) 0 0 161 [some (.ref ((wM b).2.2.2 + 0)), some (.int y1), some (.int y2), some (.int y3), none, none, none, none] [] M (K M)) : ∀ (fu : Nat) (x4 : Int32) (M : Mem), XG z g (wM b) 8 (ZQ z g (wM b) finM) 0 0 84 [some (.ref ((wM b).2.2.2 + 0)), some (.int y1), some (.int y2), some (.int y3), some (.int x4), none, none, none] [] M (md_left_L84 y1 y2 y3 K fu x4 M) := by
  intro fu
  induction fu with
  | zero => intro x4 M; exact x_none
  | succ fu ih =>
    intro x4 M
    rw [md_left_L84]
    refine x_iload C dX12_left_84 (x := x4) rfl ?_
    refine x_sipush C dX12_left_86 (v := (1024 : Int32)) (by decide) ?_
    refine x_aloadn C dX12_left_89 rfl ?_
    refine x_getR C fl_X12_7 cl_11 (1) nM0 kM0 fM0_1 dX12_left_90 ?_
    refine x_iconst C dX12_left_93 (v := (1 : Int32)) (by decide) ?_
    refine x_ialdj C nM1 kM1 (j := 1) (by decide) (by decide) dX12_left_94 ?_
    refine x_iadd C dX12_left_95 ?_
    refine x_icmpge C dX12_left_96 (tgt := 161) (by decide) (fun _h => ?_) (fun _h => ?_)
    · exact x_wk (L' := [some (.ref ((wM b).2.2.2 + 0)), some (.int y1), some (.int y2), some (.int y3), none, none, none, none]) (And.intro rfl (And.intro rfl (And.intro rfl (And.intro rfl trivial)))) (hK (M))
    · refine x_iload C dX12_left_99 (x := x4) rfl ?_
      refine x_sipush C dX12_left_101 (v := (1024 : Int32)) (by decide) ?_
      refine x_icmpge C dX12_left_104 (tgt := 122) (by decide) (fun _h => ?_) (fun _h => ?_)
      · exact x_wk (L' := [some (.ref ((wM b).2.2.2 + 0)), some (.int y1), some (.int y2), some (.int y3), some (.int x4), none, none, none]) (And.intro rfl (And.intro rfl (And.intro rfl (And.intro rfl (And.intro rfl trivial))))) (w_md_left_J122 C  (y1) (y2) (y3) ih hK (x4)  M)
      · refine x_iload C dX12_left_107 (x := x4) rfl ?_
        refine x_aloadn C dX12_left_109 rfl ?_
        refine x_Vi (st := [.int x4]) C (c_md_everybody   M) lk_X12_208 nM0 kM0 ⟨_, _, rfl⟩ rfl rfl (Nat.le_of_ble_eq_true rfl) (rmok_d (by decide) (by decide)) ⟨Nat.zero_le _, Nat.zero_le _⟩ dX12_left_110 (fun v11 => ?_)
        refine x_iconst C dX12_left_113 (v := (-1 : Int32)) (by decide) ?_
        refine x_ixor C dX12_left_114 ?_
        refine x_iand C dX12_left_115 ?_
        refine x_ifeq C dX12_left_116 (tgt := 122) (by decide) (fun _h => ?_) (fun _h => ?_)
        · exact x_wk (L' := [some (.ref ((wM b).2.2.2 + 0)), some (.int y1), some (.int y2), some (.int y3), some (.int x4), none, none, none]) (And.intro rfl (And.intro rfl (And.intro rfl (And.intro rfl (And.intro rfl trivial))))) (w_md_left_J122 C  (y1) (y2) (y3) ih hK (x4)  M)
        · refine x_goto C dX12_left_119 (tgt := 155) (by decide) ?_
          refine x_iinc C dX12_left_155 (v := (x4 + (1 : Int32))) rfl rfl (L' := [some (.ref ((wM b).2.2.2 + 0)), some (.int y1), some (.int y2), some (.int y3), some (.int (x4 + (1 : Int32))), none, none, none]) rfl ?_
          refine x_goto C dX12_left_158 (tgt := 84) (by decide) ?_
          exact x_wk (L' := [some (.ref ((wM b).2.2.2 + 0)), some (.int y1), some (.int y2), some (.int y3), some (.int (x4 + (1 : Int32))), none, none, none]) (And.intro rfl (And.intro rfl (And.intro rfl (And.intro rfl (And.intro rfl trivial))))) (ih ((x4 + (1 : Int32))) (M))
set_option maxHeartbeats 4000000 in
set_option maxRecDepth 20000 in
theorem w_md_left_L54 {z : ZT} {l : Launch} {g : GG} {b : Nat} (C : Cx z l g (wM b) (rmd 6) cX12_left 8 RX12 (some .int)) (y1 : Int32) {K : Int32 → Mem → Option (Int32 × Mem)} (hK : ∀ (x2 : Int32) (M : Mem) , XG z g (wM b) 8 (ZQ z g (wM b) finM) 0 0 167 [some (.ref ((wM b).2.2.2 + 0)), some (.int y1), some (.int x2), none, none, none, none, none] [] M (K x2 M)) : ∀ (fu : Nat) (x2 : Int32) (x3 : Int32) (M : Mem), XG z g (wM b) 8 (ZQ z g (wM b) finM) 0 0 54 [some (.ref ((wM b).2.2.2 + 0)), some (.int y1), some (.int x2), some (.int x3), none, none, none, none] [] M (md_left_L54 y1 K fu x2 x3 M) := by
  intro fu
  induction fu with
  | zero => intro x2 x3 M; exact x_none
  | succ fu ih =>
    intro x2 x3 M
    rw [md_left_L54]
    refine x_iloadn C dX12_left_54 (x := x3) rfl ?_
    refine x_iloadn C dX12_left_55 (x := y1) rfl ?_
    refine x_icmpge C dX12_left_56 (tgt := 167) (by decide) (fun _h => ?_) (fun _h => ?_)
    · exact x_wk (L' := [some (.ref ((wM b).2.2.2 + 0)), some (.int y1), some (.int x2), none, none, none, none, none]) (And.intro rfl (And.intro rfl (And.intro rfl trivial))) (hK (x2) (M))
    · refine x_aloadn C dX12_left_59 rfl ?_
      refine x_getR C fl_X12_35 cl_11 (8) nM0 kM0 fM0_16 dX12_left_60 ?_
      refine x_iloadn C dX12_left_63 (x := x3) rfl ?_
      refine x_iald C nM8 kM8 dX12_left_64 ?_
      refine x_iconst C dX12_left_65 (v := (1 : Int32)) (by decide) ?_
      refine x_icmpeq C dX12_left_66 (tgt := 72) (by decide) (fun _h => ?_) (fun _h => ?_)
      · refine x_aloadn C dX12_left_72 rfl ?_
        refine x_getR C fl_X12_35 cl_11 (8) nM0 kM0 fM0_16 dX12_left_73 ?_
        refine x_iloadn C dX12_left_76 (x := x3) rfl ?_
        refine x_iconst C dX12_left_77 (v := (2 : Int32)) (by decide) ?_
        refine x_iast C nM8 kM8 dX12_left_78 ?_
        refine x_ltM (fun M7 => ?_)
        refine x_iconst C dX12_left_79 (v := (1 : Int32)) (by decide) ?_
        refine x_istoren C dX12_left_80 (L' := [some (.ref ((wM b).2.2.2 + 0)), some (.int y1), some (.int (1 : Int32)), some (.int x3), none, none, none, none]) (ltb rfl) rfl ?_
        refine x_iconst C dX12_left_81 (v := (0 : Int32)) (by decide) ?_
        refine x_istore C dX12_left_82 (L' := [some (.ref ((wM b).2.2.2 + 0)), some (.int y1), some (.int (1 : Int32)), some (.int x3), some (.int (0 : Int32)), none, none, none]) (ltb rfl) rfl ?_
        refine x_wk (L' := [some (.ref ((wM b).2.2.2 + 0)), some (.int y1), some (.int (1 : Int32)), some (.int x3), some (.int (0 : Int32)), none, none, none]) (And.intro rfl (And.intro rfl (And.intro rfl (And.intro rfl (And.intro rfl trivial))))) (w_md_left_L84 C  (y1) ((1 : Int32)) (x3)  (fun M13 => ?_) FU ((0 : Int32)) M7)
        refine x_iinc C dX12_left_161 (v := (x3 + (1 : Int32))) rfl rfl (L' := [some (.ref ((wM b).2.2.2 + 0)), some (.int y1), some (.int (1 : Int32)), some (.int (x3 + (1 : Int32))), none, none, none, none]) rfl ?_
        refine x_goto C dX12_left_164 (tgt := 54) (by decide) ?_
        exact x_wk (L' := [some (.ref ((wM b).2.2.2 + 0)), some (.int y1), some (.int (1 : Int32)), some (.int (x3 + (1 : Int32))), none, none, none, none]) (And.intro rfl (And.intro rfl (And.intro rfl (And.intro rfl trivial)))) (ih ((1 : Int32)) ((x3 + (1 : Int32))) (M13))
      · refine x_goto C dX12_left_69 (tgt := 161) (by decide) ?_
        refine x_iinc C dX12_left_161 (v := (x3 + (1 : Int32))) rfl rfl (L' := [some (.ref ((wM b).2.2.2 + 0)), some (.int y1), some (.int x2), some (.int (x3 + (1 : Int32))), none, none, none, none]) rfl ?_
        refine x_goto C dX12_left_164 (tgt := 54) (by decide) ?_
        exact x_wk (L' := [some (.ref ((wM b).2.2.2 + 0)), some (.int y1), some (.int x2), some (.int (x3 + (1 : Int32))), none, none, none, none]) (And.intro rfl (And.intro rfl (And.intro rfl (And.intro rfl trivial)))) (ih (x2) ((x3 + (1 : Int32))) (M))
set_option maxHeartbeats 4000000 in
set_option maxRecDepth 20000 in
theorem w_md_left_L46 {z : ZT} {l : Launch} {g : GG} {b : Nat} (C : Cx z l g (wM b) (rmd 6) cX12_left 8 RX12 (some .int)) (y1 : Int32) {K : Mem → Option (Int32 × Mem)} (hK : ∀ (M : Mem) , XG z g (wM b) 8 (ZQ z g (wM b) finM) 0 0 170 [some (.ref ((wM b).2.2.2 + 0)), none, none, none, none, none, none, none] [] M (K M)) : ∀ (fu : Nat) (x2 : Int32) (M : Mem), XG z g (wM b) 8 (ZQ z g (wM b) finM) 0 0 46 [some (.ref ((wM b).2.2.2 + 0)), some (.int y1), some (.int x2), none, none, none, none, none] [] M (md_left_L46 y1 K fu x2 M) := by
  intro fu
  induction fu with
  | zero => intro x2 M; exact x_none
  | succ fu ih =>
    intro x2 M
    rw [md_left_L46]
    refine x_iloadn C dX12_left_46 (x := x2) rfl ?_
    refine x_ifeq C dX12_left_47 (tgt := 170) (by decide) (fun _h => ?_) (fun _h => ?_)
    · exact x_wk (L' := [some (.ref ((wM b).2.2.2 + 0)), none, none, none, none, none, none, none]) (And.intro rfl trivial) (hK (M))
    · refine x_iconst C dX12_left_50 (v := (0 : Int32)) (by decide) ?_
      refine x_istoren C dX12_left_51 (L' := [some (.ref ((wM b).2.2.2 + 0)), some (.int y1), some (.int (0 : Int32)), none, none, none, none, none]) (ltb rfl) rfl ?_
      refine x_iconst C dX12_left_52 (v := (0 : Int32)) (by decide) ?_
      refine x_istoren C dX12_left_53 (L' := [some (.ref ((wM b).2.2.2 + 0)), some (.int y1), some (.int (0 : Int32)), some (.int (0 : Int32)), none, none, none, none]) (ltb rfl) rfl ?_
      refine x_wk (L' := [some (.ref ((wM b).2.2.2 + 0)), some (.int y1), some (.int (0 : Int32)), some (.int (0 : Int32)), none, none, none, none]) (And.intro rfl (And.intro rfl (And.intro rfl (And.intro rfl trivial)))) (w_md_left_L54 C  (y1)  (fun v2_13 M15 => ?_) FU ((0 : Int32)) ((0 : Int32)) M)
      refine x_goto C dX12_left_167 (tgt := 46) (by decide) ?_
      exact x_wk (L' := [some (.ref ((wM b).2.2.2 + 0)), some (.int y1), some (.int v2_13), none, none, none, none, none]) (And.intro rfl (And.intro rfl (And.intro rfl trivial))) (ih (v2_13) (M15))
set_option maxHeartbeats 4000000 in
set_option maxRecDepth 20000 in
theorem w_md_left_L227 {z : ZT} {l : Launch} {g : GG} {b : Nat} (C : Cx z l g (wM b) (rmd 6) cX12_left 8 RX12 (some .int)) (y3 : Int32) (y4 : Int32) (y5 : Int32) (M : Mem) {K : Int32 → Option (Int32 × Mem)} (hK : ∀ (x6 : Int32) , XG z g (wM b) 8 (ZQ z g (wM b) finM) 0 0 264 [some (.ref ((wM b).2.2.2 + 0)), none, none, some (.int y3), some (.int y4), some (.int y5), some (.int x6), none] [] M (K x6)) : ∀ (fu : Nat) (x6 : Int32) (x7 : Int32), XG z g (wM b) 8 (ZQ z g (wM b) finM) 0 0 227 [some (.ref ((wM b).2.2.2 + 0)), none, none, some (.int y3), some (.int y4), some (.int y5), some (.int x6), some (.int x7)] [] M (md_left_L227 y3 y4 y5 M K fu x6 x7) := by
  intro fu
  induction fu with
  | zero => intro x6 x7; exact x_none
  | succ fu ih =>
    intro x6 x7
    rw [md_left_L227]
    refine x_iload C dX12_left_227 (x := x7) rfl ?_
    refine x_aloadn C dX12_left_229 rfl ?_
    refine x_getR C fl_X12_7 cl_11 (1) nM0 kM0 fM0_1 dX12_left_230 ?_
    refine x_iconst C dX12_left_233 (v := (1 : Int32)) (by decide) ?_
    refine x_ialdj C nM1 kM1 (j := 1) (by decide) (by decide) dX12_left_234 ?_
    refine x_icmpge C dX12_left_235 (tgt := 264) (by decide) (fun _h => ?_) (fun _h => ?_)
    · exact x_wk (L' := [some (.ref ((wM b).2.2.2 + 0)), none, none, some (.int y3), some (.int y4), some (.int y5), some (.int x6), none]) (And.intro rfl (And.intro rfl (And.intro rfl (And.intro rfl (And.intro rfl trivial))))) (hK (x6))
    · refine x_iload C dX12_left_238 (x := x6) rfl ?_
      refine x_iload C dX12_left_240 (x := y5) rfl ?_
      refine x_iload C dX12_left_242 (x := x7) rfl ?_
      refine x_Si (st := [.int x6]) C (c_md_isOf  (y5) (x7) M) lk_X12_70 rfl rfl (Nat.le_of_ble_eq_true rfl) (rmok_d (by decide) (by decide)) ⟨Nat.zero_le _, Nat.zero_le _⟩ dX12_left_244 (fun v19 => ?_)
      refine x_ifeq C dX12_left_247 (tgt := 254) (by decide) (fun _h => ?_) (fun _h => ?_)
      · refine x_iconst C dX12_left_254 (v := (1 : Int32)) (by decide) ?_
        refine x_iadd C dX12_left_255 ?_
        refine x_istore C dX12_left_256 (L' := [some (.ref ((wM b).2.2.2 + 0)), none, none, some (.int y3), some (.int y4), some (.int y5), some (.int (x6 + (1 : Int32))), some (.int x7)]) (ltb rfl) rfl ?_
        refine x_iinc C dX12_left_258 (v := (x7 + (1 : Int32))) rfl rfl (L' := [some (.ref ((wM b).2.2.2 + 0)), none, none, some (.int y3), some (.int y4), some (.int y5), some (.int (x6 + (1 : Int32))), some (.int (x7 + (1 : Int32)))]) rfl ?_
        refine x_goto C dX12_left_261 (tgt := 227) (by decide) ?_
        exact x_wk (L' := [some (.ref ((wM b).2.2.2 + 0)), none, none, some (.int y3), some (.int y4), some (.int y5), some (.int (x6 + (1 : Int32))), some (.int (x7 + (1 : Int32)))]) (And.intro rfl (And.intro rfl (And.intro rfl (And.intro rfl (And.intro rfl (And.intro rfl trivial)))))) (ih ((x6 + (1 : Int32))) ((x7 + (1 : Int32))))
      · refine x_iconst C dX12_left_250 (v := (0 : Int32)) (by decide) ?_
        refine x_goto C dX12_left_251 (tgt := 255) (by decide) ?_
        refine x_iadd C dX12_left_255 ?_
        refine x_istore C dX12_left_256 (L' := [some (.ref ((wM b).2.2.2 + 0)), none, none, some (.int y3), some (.int y4), some (.int y5), some (.int (x6 + (0 : Int32))), some (.int x7)]) (ltb rfl) rfl ?_
        refine x_iinc C dX12_left_258 (v := (x7 + (1 : Int32))) rfl rfl (L' := [some (.ref ((wM b).2.2.2 + 0)), none, none, some (.int y3), some (.int y4), some (.int y5), some (.int (x6 + (0 : Int32))), some (.int (x7 + (1 : Int32)))]) rfl ?_
        refine x_goto C dX12_left_261 (tgt := 227) (by decide) ?_
        exact x_wk (L' := [some (.ref ((wM b).2.2.2 + 0)), none, none, some (.int y3), some (.int y4), some (.int y5), some (.int (x6 + (0 : Int32))), some (.int (x7 + (1 : Int32)))]) (And.intro rfl (And.intro rfl (And.intro rfl (And.intro rfl (And.intro rfl (And.intro rfl trivial)))))) (ih ((x6 + (0 : Int32))) ((x7 + (1 : Int32))))
set_option maxHeartbeats 4000000 in
set_option maxRecDepth 20000 in
theorem w_md_left_J221 {z : ZT} {l : Launch} {g : GG} {b : Nat} (C : Cx z l g (wM b) (rmd 6) cX12_left 8 RX12 (some .int))  (M : Mem) {rec : Int32 → Int32 → Int32 → Option (Int32 × Mem)} (hrec : ∀ (u3 : Int32) (u4 : Int32) (u5 : Int32) , XG z g (wM b) 8 (ZQ z g (wM b) finM) 0 0 187 [some (.ref ((wM b).2.2.2 + 0)), none, none, some (.int u3), some (.int u4), some (.int u5), none, none] [] M (rec u3 u4 u5)) {K : Int32 → Option (Int32 × Mem)} (hK : ∀ (u3 : Int32) , XG z g (wM b) 8 (ZQ z g (wM b) finM) 0 0 316 [none, none, none, some (.int u3), none, none, none, none] [] M (K u3)) (x3 : Int32) (x4 : Int32) (x5 : Int32) : XG z g (wM b) 8 (ZQ z g (wM b) finM) 0 0 221 [some (.ref ((wM b).2.2.2 + 0)), none, none, some (.int x3), some (.int x4), some (.int x5), none, none] [] M (md_left_J221 rec K x3 x4 x5 M) := by
  rw [md_left_J221]
  refine x_iconst C dX12_left_221 (v := (0 : Int32)) (by decide) ?_
  refine x_istore C dX12_left_222 (L' := [some (.ref ((wM b).2.2.2 + 0)), none, none, some (.int x3), some (.int x4), some (.int x5), some (.int (0 : Int32)), none]) (ltb rfl) rfl ?_
  refine x_iconst C dX12_left_224 (v := (0 : Int32)) (by decide) ?_
  refine x_istore C dX12_left_225 (L' := [some (.ref ((wM b).2.2.2 + 0)), none, none, some (.int x3), some (.int x4), some (.int x5), some (.int (0 : Int32)), some (.int (0 : Int32))]) (ltb rfl) rfl ?_
  refine x_wk (L' := [some (.ref ((wM b).2.2.2 + 0)), none, none, some (.int x3), some (.int x4), some (.int x5), some (.int (0 : Int32)), some (.int (0 : Int32))]) (And.intro rfl (And.intro rfl (And.intro rfl (And.intro rfl (And.intro rfl (And.intro rfl trivial)))))) (w_md_left_L227 C  (x3) (x4) (x5) M (fun v6_19 => ?_) FU ((0 : Int32)) ((0 : Int32)) )
  refine x_aloadn C dX12_left_264 rfl ?_
  refine x_Vi (st := []) C (c_md_everybody   M) lk_X12_208 nM0 kM0 ⟨_, _, rfl⟩ rfl rfl (Nat.le_of_ble_eq_true rfl) (rmok_d (by decide) (by decide)) ⟨Nat.zero_le _, Nat.zero_le _⟩ dX12_left_265 (fun v21 => ?_)
  refine x_iload C dX12_left_268 (x := x5) rfl ?_
  refine x_iconst C dX12_left_270 (v := (-1 : Int32)) (by decide) ?_
  refine x_ixor C dX12_left_271 ?_
  refine x_iand C dX12_left_272 ?_
  refine x_istore C dX12_left_273 (L' := [some (.ref ((wM b).2.2.2 + 0)), none, none, some (.int x3), some (.int x4), some (.int x5), some (.int v6_19), some (.int (v21 &&& (x5 ^^^ (-1 : Int32))))]) (ltb rfl) rfl ?_
  refine x_iloadn C dX12_left_275 (x := x3) rfl ?_
  refine x_iconst C dX12_left_276 (v := (-1 : Int32)) (by decide) ?_
  refine x_icmpeq C dX12_left_277 (tgt := 303) (by decide) (fun _h => ?_) (fun _h => ?_)
  · refine x_iload C dX12_left_303 (x := (v21 &&& (x5 ^^^ (-1 : Int32)))) rfl ?_
    refine x_istoren C dX12_left_305 (L' := [some (.ref ((wM b).2.2.2 + 0)), none, none, some (.int (v21 &&& (x5 ^^^ (-1 : Int32)))), some (.int x4), some (.int x5), some (.int v6_19), some (.int (v21 &&& (x5 ^^^ (-1 : Int32))))]) (ltb rfl) rfl ?_
    refine x_iload C dX12_left_306 (x := v6_19) rfl ?_
    refine x_istore C dX12_left_308 (L' := [some (.ref ((wM b).2.2.2 + 0)), none, none, some (.int (v21 &&& (x5 ^^^ (-1 : Int32)))), some (.int v6_19), some (.int x5), some (.int v6_19), some (.int (v21 &&& (x5 ^^^ (-1 : Int32))))]) (ltb rfl) rfl ?_
    refine x_iinc C dX12_left_310 (v := (x5 + (-1 : Int32))) rfl rfl (L' := [some (.ref ((wM b).2.2.2 + 0)), none, none, some (.int (v21 &&& (x5 ^^^ (-1 : Int32)))), some (.int v6_19), some (.int (x5 + (-1 : Int32))), some (.int v6_19), some (.int (v21 &&& (x5 ^^^ (-1 : Int32))))]) rfl ?_
    refine x_goto C dX12_left_313 (tgt := 187) (by decide) ?_
    exact x_wk (L' := [some (.ref ((wM b).2.2.2 + 0)), none, none, some (.int (v21 &&& (x5 ^^^ (-1 : Int32)))), some (.int v6_19), some (.int (x5 + (-1 : Int32))), none, none]) (And.intro rfl (And.intro rfl (And.intro rfl (And.intro rfl trivial)))) (hrec ((v21 &&& (x5 ^^^ (-1 : Int32)))) (v6_19) ((x5 + (-1 : Int32))))
  · refine x_iload C dX12_left_280 (x := v6_19) rfl ?_
    refine x_iload C dX12_left_282 (x := x4) rfl ?_
    refine x_icmpgt C dX12_left_284 (tgt := 310) (by decide) (fun _h => ?_) (fun _h => ?_)
    · refine x_iinc C dX12_left_310 (v := (x5 + (-1 : Int32))) rfl rfl (L' := [some (.ref ((wM b).2.2.2 + 0)), none, none, some (.int x3), some (.int x4), some (.int (x5 + (-1 : Int32))), some (.int v6_19), some (.int (v21 &&& (x5 ^^^ (-1 : Int32))))]) rfl ?_
      refine x_goto C dX12_left_313 (tgt := 187) (by decide) ?_
      exact x_wk (L' := [some (.ref ((wM b).2.2.2 + 0)), none, none, some (.int x3), some (.int x4), some (.int (x5 + (-1 : Int32))), none, none]) (And.intro rfl (And.intro rfl (And.intro rfl (And.intro rfl trivial)))) (hrec (x3) (x4) ((x5 + (-1 : Int32))))
    · refine x_iload C dX12_left_287 (x := v6_19) rfl ?_
      refine x_iload C dX12_left_289 (x := x4) rfl ?_
      refine x_icmpne C dX12_left_291 (tgt := 303) (by decide) (fun _h => ?_) (fun _h => ?_)
      · refine x_iload C dX12_left_303 (x := (v21 &&& (x5 ^^^ (-1 : Int32)))) rfl ?_
        refine x_istoren C dX12_left_305 (L' := [some (.ref ((wM b).2.2.2 + 0)), none, none, some (.int (v21 &&& (x5 ^^^ (-1 : Int32)))), some (.int x4), some (.int x5), some (.int v6_19), some (.int (v21 &&& (x5 ^^^ (-1 : Int32))))]) (ltb rfl) rfl ?_
        refine x_iload C dX12_left_306 (x := v6_19) rfl ?_
        refine x_istore C dX12_left_308 (L' := [some (.ref ((wM b).2.2.2 + 0)), none, none, some (.int (v21 &&& (x5 ^^^ (-1 : Int32)))), some (.int v6_19), some (.int x5), some (.int v6_19), some (.int (v21 &&& (x5 ^^^ (-1 : Int32))))]) (ltb rfl) rfl ?_
        refine x_iinc C dX12_left_310 (v := (x5 + (-1 : Int32))) rfl rfl (L' := [some (.ref ((wM b).2.2.2 + 0)), none, none, some (.int (v21 &&& (x5 ^^^ (-1 : Int32)))), some (.int v6_19), some (.int (x5 + (-1 : Int32))), some (.int v6_19), some (.int (v21 &&& (x5 ^^^ (-1 : Int32))))]) rfl ?_
        refine x_goto C dX12_left_313 (tgt := 187) (by decide) ?_
        exact x_wk (L' := [some (.ref ((wM b).2.2.2 + 0)), none, none, some (.int (v21 &&& (x5 ^^^ (-1 : Int32)))), some (.int v6_19), some (.int (x5 + (-1 : Int32))), none, none]) (And.intro rfl (And.intro rfl (And.intro rfl (And.intro rfl trivial)))) (hrec ((v21 &&& (x5 ^^^ (-1 : Int32)))) (v6_19) ((x5 + (-1 : Int32))))
      · refine x_iload C dX12_left_294 (x := (v21 &&& (x5 ^^^ (-1 : Int32)))) rfl ?_
        refine x_iloadn C dX12_left_296 (x := x3) rfl ?_
        refine x_icmple C dX12_left_297 (tgt := 303) (by decide) (fun _h => ?_) (fun _h => ?_)
        · refine x_iload C dX12_left_303 (x := (v21 &&& (x5 ^^^ (-1 : Int32)))) rfl ?_
          refine x_istoren C dX12_left_305 (L' := [some (.ref ((wM b).2.2.2 + 0)), none, none, some (.int (v21 &&& (x5 ^^^ (-1 : Int32)))), some (.int x4), some (.int x5), some (.int v6_19), some (.int (v21 &&& (x5 ^^^ (-1 : Int32))))]) (ltb rfl) rfl ?_
          refine x_iload C dX12_left_306 (x := v6_19) rfl ?_
          refine x_istore C dX12_left_308 (L' := [some (.ref ((wM b).2.2.2 + 0)), none, none, some (.int (v21 &&& (x5 ^^^ (-1 : Int32)))), some (.int v6_19), some (.int x5), some (.int v6_19), some (.int (v21 &&& (x5 ^^^ (-1 : Int32))))]) (ltb rfl) rfl ?_
          refine x_iinc C dX12_left_310 (v := (x5 + (-1 : Int32))) rfl rfl (L' := [some (.ref ((wM b).2.2.2 + 0)), none, none, some (.int (v21 &&& (x5 ^^^ (-1 : Int32)))), some (.int v6_19), some (.int (x5 + (-1 : Int32))), some (.int v6_19), some (.int (v21 &&& (x5 ^^^ (-1 : Int32))))]) rfl ?_
          refine x_goto C dX12_left_313 (tgt := 187) (by decide) ?_
          exact x_wk (L' := [some (.ref ((wM b).2.2.2 + 0)), none, none, some (.int (v21 &&& (x5 ^^^ (-1 : Int32)))), some (.int v6_19), some (.int (x5 + (-1 : Int32))), none, none]) (And.intro rfl (And.intro rfl (And.intro rfl (And.intro rfl trivial)))) (hrec ((v21 &&& (x5 ^^^ (-1 : Int32)))) (v6_19) ((x5 + (-1 : Int32))))
        · refine x_goto C dX12_left_300 (tgt := 310) (by decide) ?_
          refine x_iinc C dX12_left_310 (v := (x5 + (-1 : Int32))) rfl rfl (L' := [some (.ref ((wM b).2.2.2 + 0)), none, none, some (.int x3), some (.int x4), some (.int (x5 + (-1 : Int32))), some (.int v6_19), some (.int (v21 &&& (x5 ^^^ (-1 : Int32))))]) rfl ?_
          refine x_goto C dX12_left_313 (tgt := 187) (by decide) ?_
          exact x_wk (L' := [some (.ref ((wM b).2.2.2 + 0)), none, none, some (.int x3), some (.int x4), some (.int (x5 + (-1 : Int32))), none, none]) (And.intro rfl (And.intro rfl (And.intro rfl (And.intro rfl trivial)))) (hrec (x3) (x4) ((x5 + (-1 : Int32))))
set_option maxHeartbeats 4000000 in
set_option maxRecDepth 20000 in
theorem w_md_left_L187 {z : ZT} {l : Launch} {g : GG} {b : Nat} (C : Cx z l g (wM b) (rmd 6) cX12_left 8 RX12 (some .int)) (M : Mem) {K : Int32 → Option (Int32 × Mem)} (hK : ∀ (x3 : Int32) , XG z g (wM b) 8 (ZQ z g (wM b) finM) 0 0 316 [none, none, none, some (.int x3), none, none, none, none] [] M (K x3)) : ∀ (fu : Nat) (x3 : Int32) (x4 : Int32) (x5 : Int32), XG z g (wM b) 8 (ZQ z g (wM b) finM) 0 0 187 [some (.ref ((wM b).2.2.2 + 0)), none, none, some (.int x3), some (.int x4), some (.int x5), none, none] [] M (md_left_L187 M K fu x3 x4 x5) := by
  intro fu
  induction fu with
  | zero => intro x3 x4 x5; exact x_none
  | succ fu ih =>
    intro x3 x4 x5
    rw [md_left_L187]
    refine x_iload C dX12_left_187 (x := x5) rfl ?_
    refine x_iflt C dX12_left_189 (tgt := 316) (by decide) (fun _h => ?_) (fun _h => ?_)
    · exact x_wk (L' := [none, none, none, some (.int x3), none, none, none, none]) (And.intro rfl trivial) (hK (x3))
    · refine x_aloadn C dX12_left_192 rfl ?_
      refine x_getR C fl_X12_35 cl_11 (8) nM0 kM0 fM0_16 dX12_left_193 ?_
      refine x_iconst C dX12_left_196 (v := (2 : Int32)) (by decide) ?_
      refine x_iload C dX12_left_197 (x := x5) rfl ?_
      refine x_imul C dX12_left_199 ?_
      refine x_iald C nM8 kM8 dX12_left_200 ?_
      refine x_ifne C dX12_left_201 (tgt := 221) (by decide) (fun _h => ?_) (fun _h => ?_)
      · exact x_wk (L' := [some (.ref ((wM b).2.2.2 + 0)), none, none, some (.int x3), some (.int x4), some (.int x5), none, none]) (And.intro rfl (And.intro rfl (And.intro rfl (And.intro rfl trivial)))) (w_md_left_J221 C   M ih hK (x3) (x4) (x5) )
      · refine x_aloadn C dX12_left_204 rfl ?_
        refine x_getR C fl_X12_35 cl_11 (8) nM0 kM0 fM0_16 dX12_left_205 ?_
        refine x_iconst C dX12_left_208 (v := (2 : Int32)) (by decide) ?_
        refine x_iload C dX12_left_209 (x := x5) rfl ?_
        refine x_imul C dX12_left_211 ?_
        refine x_iconst C dX12_left_212 (v := (1 : Int32)) (by decide) ?_
        refine x_iadd C dX12_left_213 ?_
        refine x_iald C nM8 kM8 dX12_left_214 ?_
        refine x_ifne C dX12_left_215 (tgt := 221) (by decide) (fun _h => ?_) (fun _h => ?_)
        · exact x_wk (L' := [some (.ref ((wM b).2.2.2 + 0)), none, none, some (.int x3), some (.int x4), some (.int x5), none, none]) (And.intro rfl (And.intro rfl (And.intro rfl (And.intro rfl trivial)))) (w_md_left_J221 C   M ih hK (x3) (x4) (x5) )
        · refine x_goto C dX12_left_218 (tgt := 310) (by decide) ?_
          refine x_iinc C dX12_left_310 (v := (x5 + (-1 : Int32))) rfl rfl (L' := [some (.ref ((wM b).2.2.2 + 0)), none, none, some (.int x3), some (.int x4), some (.int (x5 + (-1 : Int32))), none, none]) rfl ?_
          refine x_goto C dX12_left_313 (tgt := 187) (by decide) ?_
          exact x_wk (L' := [some (.ref ((wM b).2.2.2 + 0)), none, none, some (.int x3), some (.int x4), some (.int (x5 + (-1 : Int32))), none, none]) (And.intro rfl (And.intro rfl (And.intro rfl (And.intro rfl trivial)))) (ih (x3) (x4) ((x5 + (-1 : Int32))))
set_option maxHeartbeats 4000000 in
set_option maxRecDepth 20000 in
theorem c_md_left {l : Launch} {g : GG} {b : Nat} (M : Mem) : CT l g (wM b) (rmd 6) yX12_left cX12_left 8 (some .int) [.ref ((wM b).2.2.2 + 0)] M finM (md_left  M) := by
  refine CT.of rfl (Nat.le_of_ble_eq_true rfl) (catc rfl cat0) (fun z C => ?_)
  have C : Cx z l g (wM b) (rmd 6) cX12_left 8 RX12 (some .int) := C
  refine x_wk (L' := [some (.ref ((wM b).2.2.2 + 0)), none, none, none, none, none, none, none]) (And.intro rfl trivial) ?_
  rw [md_left]
  refine x_aloadn C dX12_left_0 rfl ?_
  refine x_iconst C dX12_left_1 (v := (0 : Int32)) (by decide) ?_
  refine x_putI C fl_X12_59 cl_11 fint_11_0 nM0 kM0 fM0_0 dX12_left_2 ?_
  refine x_ltM (fun M1 => ?_)
  refine x_iconst C dX12_left_5 (v := (2 : Int32)) (by decide) ?_
  refine x_aloadn C dX12_left_6 rfl ?_
  refine x_getR C fl_X12_7 cl_11 (1) nM0 kM0 fM0_1 dX12_left_7 ?_
  refine x_iconst C dX12_left_10 (v := (1 : Int32)) (by decide) ?_
  refine x_ialdj C nM1 kM1 (j := 1) (by decide) (by decide) dX12_left_11 ?_
  refine x_ishl C dX12_left_12 ?_
  refine x_istoren C dX12_left_13 (L' := [some (.ref ((wM b).2.2.2 + 0)), some (.int ((2 : Int32) <<< ((M1 1 1) &&& 31))), none, none, none, none, none, none]) (ltb rfl) rfl ?_
  refine x_iconst C dX12_left_14 (v := (0 : Int32)) (by decide) ?_
  refine x_istoren C dX12_left_15 (L' := [some (.ref ((wM b).2.2.2 + 0)), some (.int ((2 : Int32) <<< ((M1 1 1) &&& 31))), some (.int (0 : Int32)), none, none, none, none, none]) (ltb rfl) rfl ?_
  refine x_wk (L' := [some (.ref ((wM b).2.2.2 + 0)), some (.int ((2 : Int32) <<< ((M1 1 1) &&& 31))), some (.int (0 : Int32)), none, none, none, none, none]) (And.intro rfl (And.intro rfl (And.intro rfl trivial))) (w_md_left_L16 C  (((2 : Int32) <<< ((M1 1 1) &&& 31)))  (fun M4 => ?_) FU ((0 : Int32)) M1)
  refine x_aloadn C dX12_left_34 rfl ?_
  refine x_getR C fl_X12_35 cl_11 (8) nM0 kM0 fM0_16 dX12_left_35 ?_
  refine x_aloadn C dX12_left_38 rfl ?_
  refine x_Vi (st := [.ref ((wM b).2.2.2 + 8)]) C (c_md_stateNow   M4) lk_X12_271 nM0 kM0 ⟨_, _, rfl⟩ rfl rfl (Nat.le_of_ble_eq_true rfl) (rmok_d (by decide) (by decide)) ⟨Nat.zero_le _, Nat.zero_le _⟩ dX12_left_39 (fun v5 => ?_)
  refine x_iconst C dX12_left_42 (v := (1 : Int32)) (by decide) ?_
  refine x_iast C nM8 kM8 dX12_left_43 ?_
  refine x_ltM (fun M6 => ?_)
  refine x_iconst C dX12_left_44 (v := (1 : Int32)) (by decide) ?_
  refine x_istoren C dX12_left_45 (L' := [some (.ref ((wM b).2.2.2 + 0)), some (.int ((2 : Int32) <<< ((M1 1 1) &&& 31))), some (.int (1 : Int32)), none, none, none, none, none]) (ltb rfl) rfl ?_
  refine x_wk (L' := [some (.ref ((wM b).2.2.2 + 0)), some (.int ((2 : Int32) <<< ((M1 1 1) &&& 31))), some (.int (1 : Int32)), none, none, none, none, none]) (And.intro rfl (And.intro rfl (And.intro rfl trivial))) (w_md_left_L46 C  (((2 : Int32) <<< ((M1 1 1) &&& 31)))  (fun M17 => ?_) FU ((1 : Int32)) M6)
  refine x_iconst C dX12_left_170 (v := (-1 : Int32)) (by decide) ?_
  refine x_istoren C dX12_left_171 (L' := [some (.ref ((wM b).2.2.2 + 0)), none, none, some (.int (-1 : Int32)), none, none, none, none]) (ltb rfl) rfl ?_
  refine x_iconst C dX12_left_172 (v := (0 : Int32)) (by decide) ?_
  refine x_istore C dX12_left_173 (L' := [some (.ref ((wM b).2.2.2 + 0)), none, none, some (.int (-1 : Int32)), some (.int (0 : Int32)), none, none, none]) (ltb rfl) rfl ?_
  refine x_iconst C dX12_left_175 (v := (1 : Int32)) (by decide) ?_
  refine x_aloadn C dX12_left_176 rfl ?_
  refine x_getR C fl_X12_7 cl_11 (1) nM0 kM0 fM0_1 dX12_left_177 ?_
  refine x_iconst C dX12_left_180 (v := (1 : Int32)) (by decide) ?_
  refine x_ialdj C nM1 kM1 (j := 1) (by decide) (by decide) dX12_left_181 ?_
  refine x_ishl C dX12_left_182 ?_
  refine x_iconst C dX12_left_183 (v := (1 : Int32)) (by decide) ?_
  refine x_isub C dX12_left_184 ?_
  refine x_lti (fun v18 => ?_)
  refine x_istore C dX12_left_185 (L' := [some (.ref ((wM b).2.2.2 + 0)), none, none, some (.int (-1 : Int32)), some (.int (0 : Int32)), some (.int v18), none, none]) (ltb rfl) rfl ?_
  refine x_wk (L' := [some (.ref ((wM b).2.2.2 + 0)), none, none, some (.int (-1 : Int32)), some (.int (0 : Int32)), some (.int v18), none, none]) (And.intro rfl (And.intro rfl (And.intro rfl (And.intro rfl trivial)))) (w_md_left_L187 C   M17 (fun v3_21 => ?_) FU ((-1 : Int32)) ((0 : Int32)) (v18) )
  refine x_iloadn C dX12_left_316 (x := v3_21) rfl ?_
  exact x_iret C dX12_left_317 rfl
def md_tellsOrders_J113 (self : Int32 → Int32 → Int32 → Mem → Option Mem) (p1 : Int32) (p2 : Int32) (p3 : Int32) (rec : Int32 → Mem → Option Mem) (K : Mem → Option Mem) (x4 : Int32) (s0 : Int32) (M : Mem) : Option Mem := (if s0 = (-1 : Int32) then rec ((x4 + (1 : Int32))) (M) else chk (inb p1 6) (lt1 (wr M 10 p1.toNatClampNeg x4) fun M5 => (self ((p1 + (1 : Int32))) ((p2 ||| ((1 : Int32) <<< (x4 &&& 31)))) (s0) M5).bind fun M6 => rec ((x4 + (1 : Int32))) (M6)))
def md_tellsOrders_L59 (self : Int32 → Int32 → Int32 → Mem → Option Mem) (p1 : Int32) (p2 : Int32) (p3 : Int32) (K : Mem → Option Mem) : Nat → Int32 → Mem → Option Mem
  | 0, _, _ => none
  | fu + 1, x4, M => (if x4 < (M 0 21) then (md_isOf (p2) (x4) M).bind fun v1 => (if v1 = 0 then chk (inb x4 6) ((md_everybody M).bind fun v2 => (if ((M 9 x4.toNatClampNeg) &&& (v2 ^^^ (-1 : Int32))) = 0 then chk (inb x4 6) (bnd2 (md_behind (p3) ((M 9 x4.toNatClampNeg)) M) fun v4 M3 => md_tellsOrders_J113 self p1 p2 p3 (fun a4 aM => md_tellsOrders_L59 self p1 p2 p3 K fu a4 aM) K (x4) (v4) M3) else md_tellsOrders_J113 self p1 p2 p3 (fun a4 aM => md_tellsOrders_L59 self p1 p2 p3 K fu a4 aM) K (x4) ((-1 : Int32)) M)) else md_tellsOrders_L59 self p1 p2 p3 K fu ((x4 + (1 : Int32))) (M)) else K (M))
def md_tellsOrders_L29 (self : Int32 → Int32 → Int32 → Mem → Option Mem) (p1 : Int32) (p2 : Int32) (p3 : Int32) (K : Mem → Option Mem) : Nat → Int32 → Mem → Option Mem
  | 0, _, _ => none
  | fu + 1, x4, M => (if x4 < p1 then chk (inb x4 6) (chk (inb x4 6) (lt1 (wr M 11 x4.toNatClampNeg (M 10 x4.toNatClampNeg)) fun M10 => md_tellsOrders_L29 self p1 p2 p3 K fu ((x4 + (1 : Int32))) (M10))) else K (M))
def md_tellsOrders_S (self : Int32 → Int32 → Int32 → Mem → Option Mem) (p1 : Int32) (p2 : Int32) (p3 : Int32) (M : Mem) : Option Mem := (if p1 = (M 0 21) then lt1 (wr M 0 22 ((M 0 22) + (1 : Int32))) fun M9 => (if (M9 0 22) = (1 : Int32) then md_tellsOrders_L29 self p1 p2 p3 (fun M12 => some M12) FU ((0 : Int32)) M9 else some M9) else md_tellsOrders_L59 self p1 p2 p3 (fun M8 => some M8) FU ((0 : Int32)) M)
def md_tellsOrders : Nat → Int32 → Int32 → Int32 → Mem → Option Mem
  | 0 => fun _ _ _ _ => none
  | fu + 1 => fun p1 p2 p3 M => md_tellsOrders_S (md_tellsOrders fu) p1 p2 p3 M
set_option maxHeartbeats 4000000 in
set_option maxRecDepth 20000 in
theorem w_md_tellsOrders_J113 {z : ZT} {l : Launch} {g : GG} {b : Nat} {self : Int32 → Int32 → Int32 → Mem → Option Mem} {ds : Nat} (C : Cx z l g (wM b) (rmd (ds + 6)) cX12_tellsOrders 6 RX12 none) (hself : ∀ (a0 : Int32) (a1 : Int32) (a2 : Int32) (M : Mem), CT l g (wM b) (rmd ds) yX12_tellsOrders cX12_tellsOrders 6 none [.ref ((wM b).2.2.2 + 0), .int a0, .int a1, .int a2] M finV (self a0 a1 a2 M)) (p1 : Int32) (p2 : Int32) (p3 : Int32)  {rec : Int32 → Mem → Option Mem} (hrec : ∀ (u4 : Int32) (M : Mem) , XG z g (wM b) 6 (ZQ z g (wM b) finV) 0 0 59 [some (.ref ((wM b).2.2.2 + 0)), some (.int p1), some (.int p2), some (.int p3), some (.int u4), none] [] M (rec u4 M)) {K : Mem → Option Mem} (hK : ∀ (M : Mem) , XG z g (wM b) 6 (ZQ z g (wM b) finV) 0 0 153 [none, none, none, none, none, none] [] M (K  M)) (x4 : Int32) (s0 : Int32) (M : Mem) : XG z g (wM b) 6 (ZQ z g (wM b) finV) 0 0 113 [some (.ref ((wM b).2.2.2 + 0)), some (.int p1), some (.int p2), some (.int p3), some (.int x4), none] [.int s0] M (md_tellsOrders_J113 self p1 p2 p3 rec K x4 s0 M) := by
  rw [md_tellsOrders_J113]
  refine x_istore C dX12_tellsOrders_113 (L' := [some (.ref ((wM b).2.2.2 + 0)), some (.int p1), some (.int p2), some (.int p3), some (.int x4), some (.int s0)]) (ltb rfl) rfl ?_
  refine x_iload C dX12_tellsOrders_115 (x := s0) rfl ?_
  refine x_iconst C dX12_tellsOrders_117 (v := (-1 : Int32)) (by decide) ?_
  refine x_icmpne C dX12_tellsOrders_118 (tgt := 124) (by decide) (fun _h => ?_) (fun _h => ?_)
  · refine x_aloadn C dX12_tellsOrders_124 rfl ?_
    refine x_getR C fl_X12_41 cl_11 (10) nM0 kM0 fM0_19 dX12_tellsOrders_125 ?_
    refine x_iloadn C dX12_tellsOrders_128 (x := p1) rfl ?_
    refine x_iload C dX12_tellsOrders_129 (x := x4) rfl ?_
    refine x_iast C nM10 kM10 dX12_tellsOrders_131 ?_
    refine x_ltM (fun M5 => ?_)
    refine x_aloadn C dX12_tellsOrders_132 rfl ?_
    refine x_iloadn C dX12_tellsOrders_133 (x := p1) rfl ?_
    refine x_iconst C dX12_tellsOrders_134 (v := (1 : Int32)) (by decide) ?_
    refine x_iadd C dX12_tellsOrders_135 ?_
    refine x_iloadn C dX12_tellsOrders_136 (x := p2) rfl ?_
    refine x_iconst C dX12_tellsOrders_137 (v := (1 : Int32)) (by decide) ?_
    refine x_iload C dX12_tellsOrders_138 (x := x4) rfl ?_
    refine x_ishl C dX12_tellsOrders_140 ?_
    refine x_ior C dX12_tellsOrders_141 ?_
    refine x_iload C dX12_tellsOrders_142 (x := s0) rfl ?_
    refine x_Vv (st := []) C (hself ((p1 + (1 : Int32))) ((p2 ||| ((1 : Int32) <<< (x4 &&& 31)))) (s0) M5) lk_X12_283 nM0 kM0 ⟨_, _, rfl⟩ rfl rfl (Nat.le_of_ble_eq_true rfl) (rmok_d (by omega) (by decide)) ⟨Nat.zero_le _, Nat.zero_le _⟩ dX12_tellsOrders_144 (fun M6 => ?_)
    refine x_iinc C dX12_tellsOrders_147 (v := (x4 + (1 : Int32))) rfl rfl (L' := [some (.ref ((wM b).2.2.2 + 0)), some (.int p1), some (.int p2), some (.int p3), some (.int (x4 + (1 : Int32))), some (.int s0)]) rfl ?_
    refine x_goto C dX12_tellsOrders_150 (tgt := 59) (by decide) ?_
    exact x_wk (L' := [some (.ref ((wM b).2.2.2 + 0)), some (.int p1), some (.int p2), some (.int p3), some (.int (x4 + (1 : Int32))), none]) (And.intro rfl (And.intro rfl (And.intro rfl (And.intro rfl (And.intro rfl trivial))))) (hrec ((x4 + (1 : Int32))) (M6))
  · refine x_goto C dX12_tellsOrders_121 (tgt := 147) (by decide) ?_
    refine x_iinc C dX12_tellsOrders_147 (v := (x4 + (1 : Int32))) rfl rfl (L' := [some (.ref ((wM b).2.2.2 + 0)), some (.int p1), some (.int p2), some (.int p3), some (.int (x4 + (1 : Int32))), some (.int s0)]) rfl ?_
    refine x_goto C dX12_tellsOrders_150 (tgt := 59) (by decide) ?_
    exact x_wk (L' := [some (.ref ((wM b).2.2.2 + 0)), some (.int p1), some (.int p2), some (.int p3), some (.int (x4 + (1 : Int32))), none]) (And.intro rfl (And.intro rfl (And.intro rfl (And.intro rfl (And.intro rfl trivial))))) (hrec ((x4 + (1 : Int32))) (M))
set_option maxHeartbeats 4000000 in
set_option maxRecDepth 20000 in
theorem w_md_tellsOrders_L59 {z : ZT} {l : Launch} {g : GG} {b : Nat} {self : Int32 → Int32 → Int32 → Mem → Option Mem} {ds : Nat} (C : Cx z l g (wM b) (rmd (ds + 6)) cX12_tellsOrders 6 RX12 none) (hself : ∀ (a0 : Int32) (a1 : Int32) (a2 : Int32) (M : Mem), CT l g (wM b) (rmd ds) yX12_tellsOrders cX12_tellsOrders 6 none [.ref ((wM b).2.2.2 + 0), .int a0, .int a1, .int a2] M finV (self a0 a1 a2 M)) (p1 : Int32) (p2 : Int32) (p3 : Int32) {K : Mem → Option Mem} (hK : ∀ (M : Mem) , XG z g (wM b) 6 (ZQ z g (wM b) finV) 0 0 153 [none, none, none, none, none, none] [] M (K M)) : ∀ (fu : Nat) (x4 : Int32) (M : Mem), XG z g (wM b) 6 (ZQ z g (wM b) finV) 0 0 59 [some (.ref ((wM b).2.2.2 + 0)), some (.int p1), some (.int p2), some (.int p3), some (.int x4), none] [] M (md_tellsOrders_L59 self p1 p2 p3 K fu x4 M) := by
  intro fu
  induction fu with
  | zero => intro x4 M; exact x_none
  | succ fu ih =>
    intro x4 M
    rw [md_tellsOrders_L59]
    refine x_iload C dX12_tellsOrders_59 (x := x4) rfl ?_
    refine x_aloadn C dX12_tellsOrders_61 rfl ?_
    refine x_getI C fl_X12_277 cl_11 nM0 kM0 fM0_21 dX12_tellsOrders_62 ?_
    refine x_icmpge C dX12_tellsOrders_65 (tgt := 153) (by decide) (fun _h => ?_) (fun _h => ?_)
    · exact x_wk (L' := [none, none, none, none, none, none]) (trivial) (hK (M))
    · refine x_iloadn C dX12_tellsOrders_68 (x := p2) rfl ?_
      refine x_iload C dX12_tellsOrders_69 (x := x4) rfl ?_
      refine x_Si (st := []) C (c_md_isOf  (p2) (x4) M) lk_X12_70 rfl rfl (Nat.le_of_ble_eq_true rfl) (rmok_d (by omega) (by decide)) ⟨Nat.zero_le _, Nat.zero_le _⟩ dX12_tellsOrders_71 (fun v1 => ?_)
      refine x_ifeq C dX12_tellsOrders_74 (tgt := 80) (by decide) (fun _h => ?_) (fun _h => ?_)
      · refine x_aloadn C dX12_tellsOrders_80 rfl ?_
        refine x_getR C fl_X12_38 cl_11 (9) nM0 kM0 fM0_18 dX12_tellsOrders_81 ?_
        refine x_iload C dX12_tellsOrders_84 (x := x4) rfl ?_
        refine x_iald C nM9 kM9 dX12_tellsOrders_86 ?_
        refine x_aloadn C dX12_tellsOrders_87 rfl ?_
        refine x_Vi (st := [.int (M 9 x4.toNatClampNeg)]) C (c_md_everybody   M) lk_X12_208 nM0 kM0 ⟨_, _, rfl⟩ rfl rfl (Nat.le_of_ble_eq_true rfl) (rmok_d (by omega) (by decide)) ⟨Nat.zero_le _, Nat.zero_le _⟩ dX12_tellsOrders_88 (fun v2 => ?_)
        refine x_iconst C dX12_tellsOrders_91 (v := (-1 : Int32)) (by decide) ?_
        refine x_ixor C dX12_tellsOrders_92 ?_
        refine x_iand C dX12_tellsOrders_93 ?_
        refine x_ifeq C dX12_tellsOrders_94 (tgt := 101) (by decide) (fun _h => ?_) (fun _h => ?_)
        · refine x_aloadn C dX12_tellsOrders_101 rfl ?_
          refine x_iloadn C dX12_tellsOrders_102 (x := p3) rfl ?_
          refine x_aloadn C dX12_tellsOrders_103 rfl ?_
          refine x_getR C fl_X12_38 cl_11 (9) nM0 kM0 fM0_18 dX12_tellsOrders_104 ?_
          refine x_iload C dX12_tellsOrders_107 (x := x4) rfl ?_
          refine x_iald C nM9 kM9 dX12_tellsOrders_109 ?_
          refine x_Vm (st := []) C (c_md_behind  (p3) ((M 9 x4.toNatClampNeg)) M) lk_X12_260 nM0 kM0 ⟨_, _, rfl⟩ rfl rfl (Nat.le_of_ble_eq_true rfl) (rmok_d (by omega) (by decide)) ⟨Nat.zero_le _, Nat.zero_le _⟩ dX12_tellsOrders_110 (fun v4 M3 => ?_)
          exact x_wk (L' := [some (.ref ((wM b).2.2.2 + 0)), some (.int p1), some (.int p2), some (.int p3), some (.int x4), none]) (And.intro rfl (And.intro rfl (And.intro rfl (And.intro rfl (And.intro rfl trivial))))) (w_md_tellsOrders_J113 C hself p1 p2 p3  ih hK (x4) (v4) M3)
        · refine x_iconst C dX12_tellsOrders_97 (v := (-1 : Int32)) (by decide) ?_
          refine x_goto C dX12_tellsOrders_98 (tgt := 113) (by decide) ?_
          exact x_wk (L' := [some (.ref ((wM b).2.2.2 + 0)), some (.int p1), some (.int p2), some (.int p3), some (.int x4), none]) (And.intro rfl (And.intro rfl (And.intro rfl (And.intro rfl (And.intro rfl trivial))))) (w_md_tellsOrders_J113 C hself p1 p2 p3  ih hK (x4) ((-1 : Int32)) M)
      · refine x_goto C dX12_tellsOrders_77 (tgt := 147) (by decide) ?_
        refine x_iinc C dX12_tellsOrders_147 (v := (x4 + (1 : Int32))) rfl rfl (L' := [some (.ref ((wM b).2.2.2 + 0)), some (.int p1), some (.int p2), some (.int p3), some (.int (x4 + (1 : Int32))), none]) rfl ?_
        refine x_goto C dX12_tellsOrders_150 (tgt := 59) (by decide) ?_
        exact x_wk (L' := [some (.ref ((wM b).2.2.2 + 0)), some (.int p1), some (.int p2), some (.int p3), some (.int (x4 + (1 : Int32))), none]) (And.intro rfl (And.intro rfl (And.intro rfl (And.intro rfl (And.intro rfl trivial))))) (ih ((x4 + (1 : Int32))) (M))
set_option maxHeartbeats 4000000 in
set_option maxRecDepth 20000 in
theorem w_md_tellsOrders_L29 {z : ZT} {l : Launch} {g : GG} {b : Nat} {self : Int32 → Int32 → Int32 → Mem → Option Mem} {ds : Nat} (C : Cx z l g (wM b) (rmd (ds + 6)) cX12_tellsOrders 6 RX12 none) (hself : ∀ (a0 : Int32) (a1 : Int32) (a2 : Int32) (M : Mem), CT l g (wM b) (rmd ds) yX12_tellsOrders cX12_tellsOrders 6 none [.ref ((wM b).2.2.2 + 0), .int a0, .int a1, .int a2] M finV (self a0 a1 a2 M)) (p1 : Int32) (p2 : Int32) (p3 : Int32) {K : Mem → Option Mem} (hK : ∀ (M : Mem) , XG z g (wM b) 6 (ZQ z g (wM b) finV) 0 0 55 [none, none, none, none, none, none] [] M (K M)) : ∀ (fu : Nat) (x4 : Int32) (M : Mem), XG z g (wM b) 6 (ZQ z g (wM b) finV) 0 0 29 [some (.ref ((wM b).2.2.2 + 0)), some (.int p1), none, none, some (.int x4), none] [] M (md_tellsOrders_L29 self p1 p2 p3 K fu x4 M) := by
  intro fu
  induction fu with
  | zero => intro x4 M; exact x_none
  | succ fu ih =>
    intro x4 M
    rw [md_tellsOrders_L29]
    refine x_iload C dX12_tellsOrders_29 (x := x4) rfl ?_
    refine x_iloadn C dX12_tellsOrders_31 (x := p1) rfl ?_
    refine x_icmpge C dX12_tellsOrders_32 (tgt := 55) (by decide) (fun _h => ?_) (fun _h => ?_)
    · exact x_wk (L' := [none, none, none, none, none, none]) (trivial) (hK (M))
    · refine x_aloadn C dX12_tellsOrders_35 rfl ?_
      refine x_getR C fl_X12_44 cl_11 (11) nM0 kM0 fM0_20 dX12_tellsOrders_36 ?_
      refine x_iload C dX12_tellsOrders_39 (x := x4) rfl ?_
      refine x_aloadn C dX12_tellsOrders_41 rfl ?_
      refine x_getR C fl_X12_41 cl_11 (10) nM0 kM0 fM0_19 dX12_tellsOrders_42 ?_
      refine x_iload C dX12_tellsOrders_45 (x := x4) rfl ?_
      refine x_iald C nM10 kM10 dX12_tellsOrders_47 ?_
      refine x_iast C nM11 kM11 dX12_tellsOrders_48 ?_
      refine x_ltM (fun M10 => ?_)
      refine x_iinc C dX12_tellsOrders_49 (v := (x4 + (1 : Int32))) rfl rfl (L' := [some (.ref ((wM b).2.2.2 + 0)), some (.int p1), none, none, some (.int (x4 + (1 : Int32))), none]) rfl ?_
      refine x_goto C dX12_tellsOrders_52 (tgt := 29) (by decide) ?_
      exact x_wk (L' := [some (.ref ((wM b).2.2.2 + 0)), some (.int p1), none, none, some (.int (x4 + (1 : Int32))), none]) (And.intro rfl (And.intro rfl (And.intro rfl trivial))) (ih ((x4 + (1 : Int32))) (M10))
set_option maxHeartbeats 4000000 in
set_option maxRecDepth 20000 in
theorem c_md_tellsOrders_S {l : Launch} {g : GG} {b : Nat} {self : Int32 → Int32 → Int32 → Mem → Option Mem} {ds : Nat} (hself : ∀ (a0 : Int32) (a1 : Int32) (a2 : Int32) (M : Mem), CT l g (wM b) (rmd ds) yX12_tellsOrders cX12_tellsOrders 6 none [.ref ((wM b).2.2.2 + 0), .int a0, .int a1, .int a2] M finV (self a0 a1 a2 M)) (p1 : Int32) (p2 : Int32) (p3 : Int32) (M : Mem) : CT l g (wM b) (rmd (ds + 6)) yX12_tellsOrders cX12_tellsOrders 6 none [.ref ((wM b).2.2.2 + 0), .int p1, .int p2, .int p3] M finV (md_tellsOrders_S self p1 p2 p3 M) := by
  refine CT.of rfl (Nat.le_of_ble_eq_true rfl) (catc rfl (catc rfl (catc rfl (catc rfl cat0)))) (fun z C => ?_)
  have C : Cx z l g (wM b) (rmd (ds + 6)) cX12_tellsOrders 6 RX12 none := C
  refine x_wk (L' := [some (.ref ((wM b).2.2.2 + 0)), some (.int p1), some (.int p2), some (.int p3), none, none]) (And.intro rfl (And.intro rfl (And.intro rfl (And.intro rfl trivial)))) ?_
  rw [md_tellsOrders_S]
  refine x_iloadn C dX12_tellsOrders_0 (x := p1) rfl ?_
  refine x_aloadn C dX12_tellsOrders_1 rfl ?_
  refine x_getI C fl_X12_277 cl_11 nM0 kM0 fM0_21 dX12_tellsOrders_2 ?_
  refine x_icmpne C dX12_tellsOrders_5 (tgt := 56) (by decide) (fun _h => ?_) (fun _h => ?_)
  · refine x_iconst C dX12_tellsOrders_56 (v := (0 : Int32)) (by decide) ?_
    refine x_istore C dX12_tellsOrders_57 (L' := [some (.ref ((wM b).2.2.2 + 0)), some (.int p1), some (.int p2), some (.int p3), some (.int (0 : Int32)), none]) (ltb rfl) rfl ?_
    refine x_wk (L' := [some (.ref ((wM b).2.2.2 + 0)), some (.int p1), some (.int p2), some (.int p3), some (.int (0 : Int32)), none]) (And.intro rfl (And.intro rfl (And.intro rfl (And.intro rfl (And.intro rfl trivial))))) (w_md_tellsOrders_L59 C hself p1 p2 p3   (fun M8 => ?_) FU ((0 : Int32)) M)
    exact x_vret C dX12_tellsOrders_153 rfl
  · refine x_aloadn C dX12_tellsOrders_8 rfl ?_
    refine x_dup C dX12_tellsOrders_9 rfl ?_
    refine x_getI C fl_X12_280 cl_11 nM0 kM0 fM0_22 dX12_tellsOrders_10 ?_
    refine x_iconst C dX12_tellsOrders_13 (v := (1 : Int32)) (by decide) ?_
    refine x_iadd C dX12_tellsOrders_14 ?_
    refine x_putI C fl_X12_280 cl_11 fint_11_22 nM0 kM0 fM0_22 dX12_tellsOrders_15 ?_
    refine x_ltM (fun M9 => ?_)
    refine x_aloadn C dX12_tellsOrders_18 rfl ?_
    refine x_getI C fl_X12_280 cl_11 nM0 kM0 fM0_22 dX12_tellsOrders_19 ?_
    refine x_iconst C dX12_tellsOrders_22 (v := (1 : Int32)) (by decide) ?_
    refine x_icmpne C dX12_tellsOrders_23 (tgt := 55) (by decide) (fun _h => ?_) (fun _h => ?_)
    · exact x_vret C dX12_tellsOrders_55 rfl
    · refine x_iconst C dX12_tellsOrders_26 (v := (0 : Int32)) (by decide) ?_
      refine x_istore C dX12_tellsOrders_27 (L' := [some (.ref ((wM b).2.2.2 + 0)), some (.int p1), some (.int p2), some (.int p3), some (.int (0 : Int32)), none]) (ltb rfl) rfl ?_
      refine x_wk (L' := [some (.ref ((wM b).2.2.2 + 0)), some (.int p1), none, none, some (.int (0 : Int32)), none]) (And.intro rfl (And.intro rfl (And.intro rfl trivial))) (w_md_tellsOrders_L29 C hself p1 p2 p3   (fun M12 => ?_) FU ((0 : Int32)) M9)
      exact x_vret C dX12_tellsOrders_55 rfl
theorem c_md_tellsOrders {l : Launch} {g : GG} {b : Nat} : ∀ (fu : Nat) (p1 : Int32) (p2 : Int32) (p3 : Int32) (M : Mem), CT l g (wM b) (rmd (1 + 6 * fu)) yX12_tellsOrders cX12_tellsOrders 6 none [.ref ((wM b).2.2.2 + 0), .int p1, .int p2, .int p3] M finV (md_tellsOrders fu p1 p2 p3 M)
  | 0, _, _, _, _ => fun _ _ h => by cases h
  | fu + 1, p1, p2, p3, M => c_md_tellsOrders_S (ds := 1 + 6 * fu) (c_md_tellsOrders fu) p1 p2 p3 M
def md_lost_L40 (p1 : Int32) (y2 : Int32) (M : Mem) (K : Int32 → Option (Int32 × Mem)) : Nat → Int32 → Int32 → Option (Int32 × Mem)
  | 0, _, _ => none
  | fu + 1, x3, x4 => (if x4 < y2 then (if x3 = 0 then K (x3) else chk (inb x4 400) ((md_isIn ((M 4 x4.toNatClampNeg)) ((48 : Int32)) ((79 : Int32)) M).bind fun v3 => md_lost_L40 p1 y2 M K fu (v3) ((x4 + (1 : Int32))))) else K (x3))
def md_lost_L103 (p1 : Int32) (K : Mem → Option (Int32 × Mem)) : Nat → Int32 → Mem → Option (Int32 × Mem)
  | 0, _, _ => none
  | fu + 1, x4, M => (if x4 < (M 0 21) then chk (inb ((2 : Int32) * x4) 400) (chk (inb (((2 : Int32) * x4) + (1 : Int32)) 400) (chk (inb x4 6) (lt1 (wr M 9 x4.toNatClampNeg (((M 4 ((2 : Int32) * x4).toNatClampNeg) - (48 : Int32)) + ((32 : Int32) * ((M 4 (((2 : Int32) * x4) + (1 : Int32)).toNatClampNeg) - (48 : Int32))))) fun M7 => md_lost_L103 p1 K fu ((x4 + (1 : Int32))) (M7)))) else K (M))
def md_lost_J81 (p1 : Int32) (x2 : Int32) (s0 : Int32) (M : Mem) : Option (Int32 × Mem) := lt1 (wr M 0 0 s0) fun M5 => (if 0 < (M5 0 0) then some ((0 : Int32), M5) else lt1 (wr M5 0 21 (x2 / (2 : Int32))) fun M6 => md_lost_L103 p1 (fun M9 => lt1 (wr M9 0 22 (0 : Int32)) fun M10 => (md_stateNow M10).bind fun v11 => (md_tellsOrders FD ((0 : Int32)) ((0 : Int32)) (v11) M10).bind fun M12 => (if p1 = (-1 : Int32) then some ((M12 0 22), M12) else (if 0 < (M12 0 22) then (if p1 < (M12 0 21) then chk (inb p1 6) (some ((M12 11 p1.toNatClampNeg), M12)) else some ((-1 : Int32), M12)) else some ((-1 : Int32), M12)))) FU ((0 : Int32)) M6)
def md_lost_J71 (p1 : Int32) (x2 : Int32) (x3 : Int32) (M : Mem) : Option (Int32 × Mem) := (if x3 = 0 then md_lost_J81 p1 (x2) ((1 : Int32)) M else md_lost_J81 p1 (x2) ((0 : Int32)) M)
def md_lost_J36 (p1 : Int32) (x2 : Int32) (s0 : Int32) (M : Mem) : Option (Int32 × Mem) := md_lost_L40 p1 (x2) M (fun v3_3 => md_lost_J71 p1 (x2) (v3_3) M) FU (s0) ((0 : Int32))
def md_lost_J35 (p1 : Int32) (x2 : Int32) (M : Mem) : Option (Int32 × Mem) := md_lost_J36 p1 (x2) ((0 : Int32)) M
def md_lost (p1 : Int32) (M : Mem) : Option (Int32 × Mem) := lt1 (wr M 0 6 (0 : Int32)) fun M1 => (md_isIn ((M 0 6)) ((2 : Int32)) ((12 : Int32)) M1).bind fun v2 => (if v2 = 0 then md_lost_J35 p1 ((M 0 6)) M1 else (if (irem (M 0 6) (2 : Int32)) = 0 then (if p1 < (-1 : Int32) then md_lost_J35 p1 ((M 0 6)) M1 else md_lost_J36 p1 ((M 0 6)) ((1 : Int32)) M1) else md_lost_J35 p1 ((M 0 6)) M1))
set_option maxHeartbeats 4000000 in
set_option maxRecDepth 20000 in
theorem w_md_lost_L40 {z : ZT} {l : Launch} {g : GG} {b : Nat} (C : Cx z l g (wM b) (rmd 74) cX12_lost 5 RX12 (some .int)) (p1 : Int32) (y2 : Int32) (M : Mem) {K : Int32 → Option (Int32 × Mem)} (hK : ∀ (x3 : Int32) , XG z g (wM b) 5 (ZQ z g (wM b) finM) 0 0 71 [some (.ref ((wM b).2.2.2 + 0)), some (.int p1), some (.int y2), some (.int x3), none] [] M (K x3)) : ∀ (fu : Nat) (x3 : Int32) (x4 : Int32), XG z g (wM b) 5 (ZQ z g (wM b) finM) 0 0 40 [some (.ref ((wM b).2.2.2 + 0)), some (.int p1), some (.int y2), some (.int x3), some (.int x4)] [] M (md_lost_L40 p1 y2 M K fu x3 x4) := by
  intro fu
  induction fu with
  | zero => intro x3 x4; exact x_none
  | succ fu ih =>
    intro x3 x4
    rw [md_lost_L40]
    refine x_iload C dX12_lost_40 (x := x4) rfl ?_
    refine x_iloadn C dX12_lost_42 (x := y2) rfl ?_
    refine x_icmpge C dX12_lost_43 (tgt := 71) (by decide) (fun _h => ?_) (fun _h => ?_)
    · exact x_wk (L' := [some (.ref ((wM b).2.2.2 + 0)), some (.int p1), some (.int y2), some (.int x3), none]) (And.intro rfl (And.intro rfl (And.intro rfl (And.intro rfl trivial)))) (hK (x3))
    · refine x_iloadn C dX12_lost_46 (x := x3) rfl ?_
      refine x_ifeq C dX12_lost_47 (tgt := 71) (by decide) (fun _h => ?_) (fun _h => ?_)
      · exact x_wk (L' := [some (.ref ((wM b).2.2.2 + 0)), some (.int p1), some (.int y2), some (.int x3), none]) (And.intro rfl (And.intro rfl (And.intro rfl (And.intro rfl trivial)))) (hK (x3))
      · refine x_aloadn C dX12_lost_50 rfl ?_
        refine x_getR C fl_X12_19 cl_11 (4) nM0 kM0 fM0_5 dX12_lost_51 ?_
        refine x_iload C dX12_lost_54 (x := x4) rfl ?_
        refine x_iald C nM4 kM4 dX12_lost_56 ?_
        refine x_bipush C dX12_lost_57 (v := (48 : Int32)) (by decide) ?_
        refine x_bipush C dX12_lost_59 (v := (79 : Int32)) (by decide) ?_
        refine x_Si (st := []) C (c_md_isIn  ((M 4 x4.toNatClampNeg)) ((48 : Int32)) ((79 : Int32)) M) lk_X12_62 rfl rfl (Nat.le_of_ble_eq_true rfl) (rmok_d (by decide) (by decide)) ⟨Nat.zero_le _, Nat.zero_le _⟩ dX12_lost_61 (fun v3 => ?_)
        refine x_istoren C dX12_lost_64 (L' := [some (.ref ((wM b).2.2.2 + 0)), some (.int p1), some (.int y2), some (.int v3), some (.int x4)]) (ltb rfl) rfl ?_
        refine x_iinc C dX12_lost_65 (v := (x4 + (1 : Int32))) rfl rfl (L' := [some (.ref ((wM b).2.2.2 + 0)), some (.int p1), some (.int y2), some (.int v3), some (.int (x4 + (1 : Int32)))]) rfl ?_
        refine x_goto C dX12_lost_68 (tgt := 40) (by decide) ?_
        exact x_wk (L' := [some (.ref ((wM b).2.2.2 + 0)), some (.int p1), some (.int y2), some (.int v3), some (.int (x4 + (1 : Int32)))]) (And.intro rfl (And.intro rfl (And.intro rfl (And.intro rfl (And.intro rfl trivial))))) (ih (v3) ((x4 + (1 : Int32))))
set_option maxHeartbeats 4000000 in
set_option maxRecDepth 20000 in
theorem w_md_lost_L103 {z : ZT} {l : Launch} {g : GG} {b : Nat} (C : Cx z l g (wM b) (rmd 74) cX12_lost 5 RX12 (some .int)) (p1 : Int32) {K : Mem → Option (Int32 × Mem)} (hK : ∀ (M : Mem) , XG z g (wM b) 5 (ZQ z g (wM b) finM) 0 0 155 [some (.ref ((wM b).2.2.2 + 0)), some (.int p1), none, none, none] [] M (K M)) : ∀ (fu : Nat) (x4 : Int32) (M : Mem), XG z g (wM b) 5 (ZQ z g (wM b) finM) 0 0 103 [some (.ref ((wM b).2.2.2 + 0)), some (.int p1), none, none, some (.int x4)] [] M (md_lost_L103 p1 K fu x4 M) := by
  intro fu
  induction fu with
  | zero => intro x4 M; exact x_none
  | succ fu ih =>
    intro x4 M
    rw [md_lost_L103]
    refine x_iload C dX12_lost_103 (x := x4) rfl ?_
    refine x_aloadn C dX12_lost_105 rfl ?_
    refine x_getI C fl_X12_277 cl_11 nM0 kM0 fM0_21 dX12_lost_106 ?_
    refine x_icmpge C dX12_lost_109 (tgt := 155) (by decide) (fun _h => ?_) (fun _h => ?_)
    · exact x_wk (L' := [some (.ref ((wM b).2.2.2 + 0)), some (.int p1), none, none, none]) (And.intro rfl (And.intro rfl trivial)) (hK (M))
    · refine x_aloadn C dX12_lost_112 rfl ?_
      refine x_getR C fl_X12_38 cl_11 (9) nM0 kM0 fM0_18 dX12_lost_113 ?_
      refine x_iload C dX12_lost_116 (x := x4) rfl ?_
      refine x_aloadn C dX12_lost_118 rfl ?_
      refine x_getR C fl_X12_19 cl_11 (4) nM0 kM0 fM0_5 dX12_lost_119 ?_
      refine x_iconst C dX12_lost_122 (v := (2 : Int32)) (by decide) ?_
      refine x_iload C dX12_lost_123 (x := x4) rfl ?_
      refine x_imul C dX12_lost_125 ?_
      refine x_iald C nM4 kM4 dX12_lost_126 ?_
      refine x_bipush C dX12_lost_127 (v := (48 : Int32)) (by decide) ?_
      refine x_isub C dX12_lost_129 ?_
      refine x_bipush C dX12_lost_130 (v := (32 : Int32)) (by decide) ?_
      refine x_aloadn C dX12_lost_132 rfl ?_
      refine x_getR C fl_X12_19 cl_11 (4) nM0 kM0 fM0_5 dX12_lost_133 ?_
      refine x_iconst C dX12_lost_136 (v := (2 : Int32)) (by decide) ?_
      refine x_iload C dX12_lost_137 (x := x4) rfl ?_
      refine x_imul C dX12_lost_139 ?_
      refine x_iconst C dX12_lost_140 (v := (1 : Int32)) (by decide) ?_
      refine x_iadd C dX12_lost_141 ?_
      refine x_iald C nM4 kM4 dX12_lost_142 ?_
      refine x_bipush C dX12_lost_143 (v := (48 : Int32)) (by decide) ?_
      refine x_isub C dX12_lost_145 ?_
      refine x_imul C dX12_lost_146 ?_
      refine x_iadd C dX12_lost_147 ?_
      refine x_iast C nM9 kM9 dX12_lost_148 ?_
      refine x_ltM (fun M7 => ?_)
      refine x_iinc C dX12_lost_149 (v := (x4 + (1 : Int32))) rfl rfl (L' := [some (.ref ((wM b).2.2.2 + 0)), some (.int p1), none, none, some (.int (x4 + (1 : Int32)))]) rfl ?_
      refine x_goto C dX12_lost_152 (tgt := 103) (by decide) ?_
      exact x_wk (L' := [some (.ref ((wM b).2.2.2 + 0)), some (.int p1), none, none, some (.int (x4 + (1 : Int32)))]) (And.intro rfl (And.intro rfl (And.intro rfl trivial))) (ih ((x4 + (1 : Int32))) (M7))
set_option maxHeartbeats 4000000 in
set_option maxRecDepth 20000 in
theorem w_md_lost_J81 {z : ZT} {l : Launch} {g : GG} {b : Nat} (C : Cx z l g (wM b) (rmd 74) cX12_lost 5 RX12 (some .int)) (p1 : Int32)  (x2 : Int32) (s0 : Int32) (M : Mem) : XG z g (wM b) 5 (ZQ z g (wM b) finM) 0 0 81 [some (.ref ((wM b).2.2.2 + 0)), some (.int p1), some (.int x2), none, none] [.int s0, .ref ((wM b).2.2.2 + 0)] M (md_lost_J81 p1 x2 s0 M) := by
  rw [md_lost_J81]
  refine x_putI C fl_X12_59 cl_11 fint_11_0 nM0 kM0 fM0_0 dX12_lost_81 ?_
  refine x_ltM (fun M5 => ?_)
  refine x_aloadn C dX12_lost_84 rfl ?_
  refine x_getI C fl_X12_59 cl_11 nM0 kM0 fM0_0 dX12_lost_85 ?_
  refine x_ifle C dX12_lost_88 (tgt := 93) (by decide) (fun _h => ?_) (fun _h => ?_)
  · refine x_aloadn C dX12_lost_93 rfl ?_
    refine x_iloadn C dX12_lost_94 (x := x2) rfl ?_
    refine x_iconst C dX12_lost_95 (v := (2 : Int32)) (by decide) ?_
    refine x_idiv C dX12_lost_96 (by decide) ?_
    refine x_putI C fl_X12_277 cl_11 fint_11_21 nM0 kM0 fM0_21 dX12_lost_97 ?_
    refine x_ltM (fun M6 => ?_)
    refine x_iconst C dX12_lost_100 (v := (0 : Int32)) (by decide) ?_
    refine x_istore C dX12_lost_101 (L' := [some (.ref ((wM b).2.2.2 + 0)), some (.int p1), some (.int x2), none, some (.int (0 : Int32))]) (ltb rfl) rfl ?_
    refine x_wk (L' := [some (.ref ((wM b).2.2.2 + 0)), some (.int p1), none, none, some (.int (0 : Int32))]) (And.intro rfl (And.intro rfl (And.intro rfl trivial))) (w_md_lost_L103 C p1   (fun M9 => ?_) FU ((0 : Int32)) M6)
    refine x_aloadn C dX12_lost_155 rfl ?_
    refine x_iconst C dX12_lost_156 (v := (0 : Int32)) (by decide) ?_
    refine x_putI C fl_X12_280 cl_11 fint_11_22 nM0 kM0 fM0_22 dX12_lost_157 ?_
    refine x_ltM (fun M10 => ?_)
    refine x_aloadn C dX12_lost_160 rfl ?_
    refine x_iconst C dX12_lost_161 (v := (0 : Int32)) (by decide) ?_
    refine x_iconst C dX12_lost_162 (v := (0 : Int32)) (by decide) ?_
    refine x_aloadn C dX12_lost_163 rfl ?_
    refine x_Vi (st := [.int (0 : Int32), .int (0 : Int32), .ref ((wM b).2.2.2 + 0)]) C (c_md_stateNow   M10) lk_X12_271 nM0 kM0 ⟨_, _, rfl⟩ rfl rfl (Nat.le_of_ble_eq_true rfl) (rmok_d (by decide) (by decide)) ⟨Nat.zero_le _, Nat.zero_le _⟩ dX12_lost_164 (fun v11 => ?_)
    refine x_Vv (st := []) C (c_md_tellsOrders FD ((0 : Int32)) ((0 : Int32)) (v11) M10) lk_X12_283 nM0 kM0 ⟨_, _, rfl⟩ rfl rfl (Nat.le_of_ble_eq_true rfl) (rmok_d (by decide) (by decide)) ⟨Nat.zero_le _, Nat.zero_le _⟩ dX12_lost_167 (fun M12 => ?_)
    refine x_iloadn C dX12_lost_170 (x := p1) rfl ?_
    refine x_iconst C dX12_lost_171 (v := (-1 : Int32)) (by decide) ?_
    refine x_icmpne C dX12_lost_172 (tgt := 180) (by decide) (fun _h => ?_) (fun _h => ?_)
    · refine x_aloadn C dX12_lost_180 rfl ?_
      refine x_getI C fl_X12_280 cl_11 nM0 kM0 fM0_22 dX12_lost_181 ?_
      refine x_ifle C dX12_lost_184 (tgt := 204) (by decide) (fun _h => ?_) (fun _h => ?_)
      · refine x_iconst C dX12_lost_204 (v := (-1 : Int32)) (by decide) ?_
        exact x_iret C dX12_lost_205 rfl
      · refine x_iloadn C dX12_lost_187 (x := p1) rfl ?_
        refine x_aloadn C dX12_lost_188 rfl ?_
        refine x_getI C fl_X12_277 cl_11 nM0 kM0 fM0_21 dX12_lost_189 ?_
        refine x_icmpge C dX12_lost_192 (tgt := 204) (by decide) (fun _h => ?_) (fun _h => ?_)
        · refine x_iconst C dX12_lost_204 (v := (-1 : Int32)) (by decide) ?_
          exact x_iret C dX12_lost_205 rfl
        · refine x_aloadn C dX12_lost_195 rfl ?_
          refine x_getR C fl_X12_44 cl_11 (11) nM0 kM0 fM0_20 dX12_lost_196 ?_
          refine x_iloadn C dX12_lost_199 (x := p1) rfl ?_
          refine x_iald C nM11 kM11 dX12_lost_200 ?_
          refine x_goto C dX12_lost_201 (tgt := 205) (by decide) ?_
          exact x_iret C dX12_lost_205 rfl
    · refine x_aloadn C dX12_lost_175 rfl ?_
      refine x_getI C fl_X12_280 cl_11 nM0 kM0 fM0_22 dX12_lost_176 ?_
      exact x_iret C dX12_lost_179 rfl
  · refine x_iconst C dX12_lost_91 (v := (0 : Int32)) (by decide) ?_
    exact x_iret C dX12_lost_92 rfl
set_option maxHeartbeats 4000000 in
set_option maxRecDepth 20000 in
theorem w_md_lost_J71 {z : ZT} {l : Launch} {g : GG} {b : Nat} (C : Cx z l g (wM b) (rmd 74) cX12_lost 5 RX12 (some .int)) (p1 : Int32)  (x2 : Int32) (x3 : Int32) (M : Mem) : XG z g (wM b) 5 (ZQ z g (wM b) finM) 0 0 71 [some (.ref ((wM b).2.2.2 + 0)), some (.int p1), some (.int x2), some (.int x3), none] [] M (md_lost_J71 p1 x2 x3 M) := by
  rw [md_lost_J71]
  refine x_aloadn C dX12_lost_71 rfl ?_
  refine x_iloadn C dX12_lost_72 (x := x3) rfl ?_
  refine x_ifne C dX12_lost_73 (tgt := 80) (by decide) (fun _h => ?_) (fun _h => ?_)
  · refine x_iconst C dX12_lost_80 (v := (0 : Int32)) (by decide) ?_
    exact x_wk (L' := [some (.ref ((wM b).2.2.2 + 0)), some (.int p1), some (.int x2), none, none]) (And.intro rfl (And.intro rfl (And.intro rfl trivial))) (w_md_lost_J81 C p1  (x2) ((0 : Int32)) M)
  · refine x_iconst C dX12_lost_76 (v := (1 : Int32)) (by decide) ?_
    refine x_goto C dX12_lost_77 (tgt := 81) (by decide) ?_
    exact x_wk (L' := [some (.ref ((wM b).2.2.2 + 0)), some (.int p1), some (.int x2), none, none]) (And.intro rfl (And.intro rfl (And.intro rfl trivial))) (w_md_lost_J81 C p1  (x2) ((1 : Int32)) M)
set_option maxHeartbeats 4000000 in
set_option maxRecDepth 20000 in
theorem w_md_lost_J36 {z : ZT} {l : Launch} {g : GG} {b : Nat} (C : Cx z l g (wM b) (rmd 74) cX12_lost 5 RX12 (some .int)) (p1 : Int32)  (x2 : Int32) (s0 : Int32) (M : Mem) : XG z g (wM b) 5 (ZQ z g (wM b) finM) 0 0 36 [some (.ref ((wM b).2.2.2 + 0)), some (.int p1), some (.int x2), none, none] [.int s0] M (md_lost_J36 p1 x2 s0 M) := by
  rw [md_lost_J36]
  refine x_istoren C dX12_lost_36 (L' := [some (.ref ((wM b).2.2.2 + 0)), some (.int p1), some (.int x2), some (.int s0), none]) (ltb rfl) rfl ?_
  refine x_iconst C dX12_lost_37 (v := (0 : Int32)) (by decide) ?_
  refine x_istore C dX12_lost_38 (L' := [some (.ref ((wM b).2.2.2 + 0)), some (.int p1), some (.int x2), some (.int s0), some (.int (0 : Int32))]) (ltb rfl) rfl ?_
  refine x_wk (L' := [some (.ref ((wM b).2.2.2 + 0)), some (.int p1), some (.int x2), some (.int s0), some (.int (0 : Int32))]) (And.intro rfl (And.intro rfl (And.intro rfl (And.intro rfl (And.intro rfl trivial))))) (w_md_lost_L40 C p1 (x2) M (fun v3_3 => ?_) FU (s0) ((0 : Int32)) )
  exact x_wk (L' := [some (.ref ((wM b).2.2.2 + 0)), some (.int p1), some (.int x2), some (.int v3_3), none]) (And.intro rfl (And.intro rfl (And.intro rfl (And.intro rfl trivial)))) (w_md_lost_J71 C p1  (x2) (v3_3)  M)
set_option maxHeartbeats 4000000 in
set_option maxRecDepth 20000 in
theorem w_md_lost_J35 {z : ZT} {l : Launch} {g : GG} {b : Nat} (C : Cx z l g (wM b) (rmd 74) cX12_lost 5 RX12 (some .int)) (p1 : Int32)  (x2 : Int32) (M : Mem) : XG z g (wM b) 5 (ZQ z g (wM b) finM) 0 0 35 [some (.ref ((wM b).2.2.2 + 0)), some (.int p1), some (.int x2), none, none] [] M (md_lost_J35 p1 x2 M) := by
  rw [md_lost_J35]
  refine x_iconst C dX12_lost_35 (v := (0 : Int32)) (by decide) ?_
  exact x_wk (L' := [some (.ref ((wM b).2.2.2 + 0)), some (.int p1), some (.int x2), none, none]) (And.intro rfl (And.intro rfl (And.intro rfl trivial))) (w_md_lost_J36 C p1  (x2) ((0 : Int32)) M)
set_option maxHeartbeats 4000000 in
set_option maxRecDepth 20000 in
theorem c_md_lost {l : Launch} {g : GG} {b : Nat} (p1 : Int32) (M : Mem) : CT l g (wM b) (rmd 74) yX12_lost cX12_lost 5 (some .int) [.ref ((wM b).2.2.2 + 0), .int p1] M finM (md_lost p1 M) := by
  refine CT.of rfl (Nat.le_of_ble_eq_true rfl) (catc rfl (catc rfl cat0)) (fun z C => ?_)
  have C : Cx z l g (wM b) (rmd 74) cX12_lost 5 RX12 (some .int) := C
  refine x_wk (L' := [some (.ref ((wM b).2.2.2 + 0)), some (.int p1), none, none, none]) (And.intro rfl (And.intro rfl trivial)) ?_
  rw [md_lost]
  refine x_aloadn C dX12_lost_0 rfl ?_
  refine x_getI C fl_X12_82 cl_11 nM0 kM0 fM0_6 dX12_lost_1 ?_
  refine x_istoren C dX12_lost_4 (L' := [some (.ref ((wM b).2.2.2 + 0)), some (.int p1), some (.int (M 0 6)), none, none]) (ltb rfl) rfl ?_
  refine x_aloadn C dX12_lost_5 rfl ?_
  refine x_iconst C dX12_lost_6 (v := (0 : Int32)) (by decide) ?_
  refine x_putI C fl_X12_82 cl_11 fint_11_6 nM0 kM0 fM0_6 dX12_lost_7 ?_
  refine x_ltM (fun M1 => ?_)
  refine x_iloadn C dX12_lost_10 (x := (M 0 6)) rfl ?_
  refine x_iconst C dX12_lost_11 (v := (2 : Int32)) (by decide) ?_
  refine x_bipush C dX12_lost_12 (v := (12 : Int32)) (by decide) ?_
  refine x_Si (st := []) C (c_md_isIn  ((M 0 6)) ((2 : Int32)) ((12 : Int32)) M1) lk_X12_62 rfl rfl (Nat.le_of_ble_eq_true rfl) (rmok_d (by decide) (by decide)) ⟨Nat.zero_le _, Nat.zero_le _⟩ dX12_lost_14 (fun v2 => ?_)
  refine x_ifeq C dX12_lost_17 (tgt := 35) (by decide) (fun _h => ?_) (fun _h => ?_)
  · exact x_wk (L' := [some (.ref ((wM b).2.2.2 + 0)), some (.int p1), some (.int (M 0 6)), none, none]) (And.intro rfl (And.intro rfl (And.intro rfl trivial))) (w_md_lost_J35 C p1  ((M 0 6))  M1)
  · refine x_iloadn C dX12_lost_20 (x := (M 0 6)) rfl ?_
    refine x_iconst C dX12_lost_21 (v := (2 : Int32)) (by decide) ?_
    refine x_irem C dX12_lost_22 (by decide) ?_
    refine x_ifne C dX12_lost_23 (tgt := 35) (by decide) (fun _h => ?_) (fun _h => ?_)
    · exact x_wk (L' := [some (.ref ((wM b).2.2.2 + 0)), some (.int p1), some (.int (M 0 6)), none, none]) (And.intro rfl (And.intro rfl (And.intro rfl trivial))) (w_md_lost_J35 C p1  ((M 0 6))  M1)
    · refine x_iloadn C dX12_lost_26 (x := p1) rfl ?_
      refine x_iconst C dX12_lost_27 (v := (-1 : Int32)) (by decide) ?_
      refine x_icmplt C dX12_lost_28 (tgt := 35) (by decide) (fun _h => ?_) (fun _h => ?_)
      · exact x_wk (L' := [some (.ref ((wM b).2.2.2 + 0)), some (.int p1), some (.int (M 0 6)), none, none]) (And.intro rfl (And.intro rfl (And.intro rfl trivial))) (w_md_lost_J35 C p1  ((M 0 6))  M1)
      · refine x_iconst C dX12_lost_31 (v := (1 : Int32)) (by decide) ?_
        refine x_goto C dX12_lost_32 (tgt := 36) (by decide) ?_
        exact x_wk (L' := [some (.ref ((wM b).2.2.2 + 0)), some (.int p1), some (.int (M 0 6)), none, none]) (And.intro rfl (And.intro rfl (And.intro rfl trivial))) (w_md_lost_J36 C p1  ((M 0 6)) ((1 : Int32)) M1)
def md_draw (p1 : Int32) (M : Mem) : Option (Int32 × Mem) := lt1 (wr M 0 27 (((1103515245 : Int32) * (M 0 27)) + (12345 : Int32))) fun M1 => chk (!(p1 == 0)) (some ((irem ((iushr (M1 0 27) (16 : Int32)) &&& (32767 : Int32)) p1), M1))
set_option maxHeartbeats 4000000 in
set_option maxRecDepth 20000 in
theorem c_md_draw {l : Launch} {g : GG} {b : Nat} (p1 : Int32) (M : Mem) : CT l g (wM b) (rmd 1) yX12_draw cX12_draw 2 (some .int) [.ref ((wM b).2.2.2 + 0), .int p1] M finM (md_draw p1 M) := by
  refine CT.of rfl (Nat.le_of_ble_eq_true rfl) (catc rfl (catc rfl cat0)) (fun z C => ?_)
  have C : Cx z l g (wM b) (rmd 1) cX12_draw 2 RX12 (some .int) := C
  refine x_wk (L' := [some (.ref ((wM b).2.2.2 + 0)), some (.int p1)]) (And.intro rfl (And.intro rfl trivial)) ?_
  rw [md_draw]
  refine x_aloadn C dX12_draw_0 rfl ?_
  refine x_ldcw C dX12_draw_1 (v := (1103515245 : Int32)) cn_X12_287 ?_
  refine x_aloadn C dX12_draw_4 rfl ?_
  refine x_getI C fl_X12_288 cl_11 nM0 kM0 fM0_27 dX12_draw_5 ?_
  refine x_imul C dX12_draw_8 ?_
  refine x_sipush C dX12_draw_9 (v := (12345 : Int32)) (by decide) ?_
  refine x_iadd C dX12_draw_12 ?_
  refine x_putI C fl_X12_288 cl_11 fint_11_27 nM0 kM0 fM0_27 dX12_draw_13 ?_
  refine x_ltM (fun M1 => ?_)
  refine x_aloadn C dX12_draw_16 rfl ?_
  refine x_getI C fl_X12_288 cl_11 nM0 kM0 fM0_27 dX12_draw_17 ?_
  refine x_bipush C dX12_draw_20 (v := (16 : Int32)) (by decide) ?_
  refine x_iushr C dX12_draw_22 ?_
  refine x_sipush C dX12_draw_23 (v := (32767 : Int32)) (by decide) ?_
  refine x_iand C dX12_draw_26 ?_
  refine x_iloadn C dX12_draw_27 (x := p1) rfl ?_
  refine x_iremc C dX12_draw_28 ?_
  exact x_iret C dX12_draw_29 rfl
def md_numberOf (p1 : Int32) (p2 : Int32) (p3 : Int32) (M : Mem) : Option (Int32 × Mem) := (if (M 1 8) = (-1 : Int32) then some ((0 : Int32), M) else chk (inb p1 41) (lt1 (wr M 5 0 (p3 - (M 14 p1.toNatClampNeg))) fun M1 => chk (inb p1 41) (lt1 (wr M1 5 1 (M1 13 p1.toNatClampNeg)) fun M2 => lt1 (wr M2 5 2 p2) fun M3 => lt1 (wr M3 5 3 p3) fun M4 => lt1 (wr M4 0 10 (-1 : Int32)) fun M5 => lt1 (wr M5 0 7 (248 : Int32)) fun M6 => lt1 (wr M6 0 8 (M6 1 9)) fun M7 => lt1 (wr M7 0 9 (0 : Int32)) fun M8 => lt1 (wr M8 0 11 (0 : Int32)) fun M9 => lt1 (wr M9 0 13 (-1 : Int32)) fun M10 => bnd2 (md_read ((1 : Int32)) M10) fun v12 M11 => lt1 (wr M11 0 10 (M4 0 10)) fun M13 => (if (M13 0 13) = (-1 : Int32) then some ((0 : Int32), M13) else some ((M13 0 13), M13)))))
set_option maxHeartbeats 4000000 in
set_option maxRecDepth 20000 in
theorem c_md_numberOf {l : Launch} {g : GG} {b : Nat} (p1 : Int32) (p2 : Int32) (p3 : Int32) (M : Mem) : CT l g (wM b) (rmd 132) yX12_numberOf cX12_numberOf 5 (some .int) [.ref ((wM b).2.2.2 + 0), .int p1, .int p2, .int p3] M finM (md_numberOf p1 p2 p3 M) := by
  refine CT.of rfl (Nat.le_of_ble_eq_true rfl) (catc rfl (catc rfl (catc rfl (catc rfl cat0)))) (fun z C => ?_)
  have C : Cx z l g (wM b) (rmd 132) cX12_numberOf 5 RX12 (some .int) := C
  refine x_wk (L' := [some (.ref ((wM b).2.2.2 + 0)), some (.int p1), some (.int p2), some (.int p3), none]) (And.intro rfl (And.intro rfl (And.intro rfl (And.intro rfl trivial)))) ?_
  rw [md_numberOf]
  refine x_aloadn C dX12_numberOf_0 rfl ?_
  refine x_getR C fl_X12_7 cl_11 (1) nM0 kM0 fM0_1 dX12_numberOf_1 ?_
  refine x_bipush C dX12_numberOf_4 (v := (8 : Int32)) (by decide) ?_
  refine x_ialdj C nM1 kM1 (j := 8) (by decide) (by decide) dX12_numberOf_6 ?_
  refine x_iconst C dX12_numberOf_7 (v := (-1 : Int32)) (by decide) ?_
  refine x_icmpne C dX12_numberOf_8 (tgt := 13) (by decide) (fun _h => ?_) (fun _h => ?_)
  · refine x_aloadn C dX12_numberOf_13 rfl ?_
    refine x_getR C fl_X12_26 cl_11 (5) nM0 kM0 fM0_12 dX12_numberOf_14 ?_
    refine x_iconst C dX12_numberOf_17 (v := (0 : Int32)) (by decide) ?_
    refine x_iloadn C dX12_numberOf_18 (x := p3) rfl ?_
    refine x_aloadn C dX12_numberOf_19 rfl ?_
    refine x_getR C fl_X12_53 cl_11 (14) nM0 kM0 fM0_25 dX12_numberOf_20 ?_
    refine x_iloadn C dX12_numberOf_23 (x := p1) rfl ?_
    refine x_iald C nM14 kM14 dX12_numberOf_24 ?_
    refine x_isub C dX12_numberOf_25 ?_
    refine x_iastj C nM5 kM5 (j := 0) (by decide) (by decide) dX12_numberOf_26 ?_
    refine x_ltM (fun M1 => ?_)
    refine x_aloadn C dX12_numberOf_27 rfl ?_
    refine x_getR C fl_X12_26 cl_11 (5) nM0 kM0 fM0_12 dX12_numberOf_28 ?_
    refine x_iconst C dX12_numberOf_31 (v := (1 : Int32)) (by decide) ?_
    refine x_aloadn C dX12_numberOf_32 rfl ?_
    refine x_getR C fl_X12_50 cl_11 (13) nM0 kM0 fM0_24 dX12_numberOf_33 ?_
    refine x_iloadn C dX12_numberOf_36 (x := p1) rfl ?_
    refine x_iald C nM13 kM13 dX12_numberOf_37 ?_
    refine x_iastj C nM5 kM5 (j := 1) (by decide) (by decide) dX12_numberOf_38 ?_
    refine x_ltM (fun M2 => ?_)
    refine x_aloadn C dX12_numberOf_39 rfl ?_
    refine x_getR C fl_X12_26 cl_11 (5) nM0 kM0 fM0_12 dX12_numberOf_40 ?_
    refine x_iconst C dX12_numberOf_43 (v := (2 : Int32)) (by decide) ?_
    refine x_iloadn C dX12_numberOf_44 (x := p2) rfl ?_
    refine x_iastj C nM5 kM5 (j := 2) (by decide) (by decide) dX12_numberOf_45 ?_
    refine x_ltM (fun M3 => ?_)
    refine x_aloadn C dX12_numberOf_46 rfl ?_
    refine x_getR C fl_X12_26 cl_11 (5) nM0 kM0 fM0_12 dX12_numberOf_47 ?_
    refine x_iconst C dX12_numberOf_50 (v := (3 : Int32)) (by decide) ?_
    refine x_iloadn C dX12_numberOf_51 (x := p3) rfl ?_
    refine x_iastj C nM5 kM5 (j := 3) (by decide) (by decide) dX12_numberOf_52 ?_
    refine x_ltM (fun M4 => ?_)
    refine x_aloadn C dX12_numberOf_53 rfl ?_
    refine x_getI C fl_X12_22 cl_11 nM0 kM0 fM0_10 dX12_numberOf_54 ?_
    refine x_istore C dX12_numberOf_57 (L' := [some (.ref ((wM b).2.2.2 + 0)), some (.int p1), some (.int p2), some (.int p3), some (.int (M4 0 10))]) (ltb rfl) rfl ?_
    refine x_aloadn C dX12_numberOf_59 rfl ?_
    refine x_iconst C dX12_numberOf_60 (v := (-1 : Int32)) (by decide) ?_
    refine x_putI C fl_X12_22 cl_11 fint_11_10 nM0 kM0 fM0_10 dX12_numberOf_61 ?_
    refine x_ltM (fun M5 => ?_)
    refine x_aloadn C dX12_numberOf_64 rfl ?_
    refine x_sipush C dX12_numberOf_65 (v := (248 : Int32)) (by decide) ?_
    refine x_putI C fl_X12_85 cl_11 fint_11_7 nM0 kM0 fM0_7 dX12_numberOf_68 ?_
    refine x_ltM (fun M6 => ?_)
    refine x_aloadn C dX12_numberOf_71 rfl ?_
    refine x_aloadn C dX12_numberOf_72 rfl ?_
    refine x_getR C fl_X12_7 cl_11 (1) nM0 kM0 fM0_1 dX12_numberOf_73 ?_
    refine x_bipush C dX12_numberOf_76 (v := (9 : Int32)) (by decide) ?_
    refine x_ialdj C nM1 kM1 (j := 9) (by decide) (by decide) dX12_numberOf_78 ?_
    refine x_putI C fl_X12_91 cl_11 fint_11_8 nM0 kM0 fM0_8 dX12_numberOf_79 ?_
    refine x_ltM (fun M7 => ?_)
    refine x_aloadn C dX12_numberOf_82 rfl ?_
    refine x_iconst C dX12_numberOf_83 (v := (0 : Int32)) (by decide) ?_
    refine x_putI C fl_X12_88 cl_11 fint_11_9 nM0 kM0 fM0_9 dX12_numberOf_84 ?_
    refine x_ltM (fun M8 => ?_)
    refine x_aloadn C dX12_numberOf_87 rfl ?_
    refine x_iconst C dX12_numberOf_88 (v := (0 : Int32)) (by decide) ?_
    refine x_putI C fl_X12_150 cl_11 fint_11_11 nM0 kM0 fM0_11 dX12_numberOf_89 ?_
    refine x_ltM (fun M9 => ?_)
    refine x_aloadn C dX12_numberOf_92 rfl ?_
    refine x_iconst C dX12_numberOf_93 (v := (-1 : Int32)) (by decide) ?_
    refine x_putI C fl_X12_205 cl_11 fint_11_13 nM0 kM0 fM0_13 dX12_numberOf_94 ?_
    refine x_ltM (fun M10 => ?_)
    refine x_aloadn C dX12_numberOf_97 rfl ?_
    refine x_iconst C dX12_numberOf_98 (v := (1 : Int32)) (by decide) ?_
    refine x_Vm (st := []) C (c_md_read  ((1 : Int32)) M10) lk_X12_166 nM0 kM0 ⟨_, _, rfl⟩ rfl rfl (Nat.le_of_ble_eq_true rfl) (rmok_d (by decide) (by decide)) ⟨Nat.zero_le _, Nat.zero_le _⟩ dX12_numberOf_99 (fun v12 M11 => ?_)
    refine x_pop C dX12_numberOf_102 rfl ?_
    refine x_aloadn C dX12_numberOf_103 rfl ?_
    refine x_iload C dX12_numberOf_104 (x := (M4 0 10)) rfl ?_
    refine x_putI C fl_X12_22 cl_11 fint_11_10 nM0 kM0 fM0_10 dX12_numberOf_106 ?_
    refine x_ltM (fun M13 => ?_)
    refine x_aloadn C dX12_numberOf_109 rfl ?_
    refine x_getI C fl_X12_205 cl_11 nM0 kM0 fM0_13 dX12_numberOf_110 ?_
    refine x_iconst C dX12_numberOf_113 (v := (-1 : Int32)) (by decide) ?_
    refine x_icmpne C dX12_numberOf_114 (tgt := 121) (by decide) (fun _h => ?_) (fun _h => ?_)
    · refine x_aloadn C dX12_numberOf_121 rfl ?_
      refine x_getI C fl_X12_205 cl_11 nM0 kM0 fM0_13 dX12_numberOf_122 ?_
      exact x_iret C dX12_numberOf_125 rfl
    · refine x_iconst C dX12_numberOf_117 (v := (0 : Int32)) (by decide) ?_
      refine x_goto C dX12_numberOf_118 (tgt := 125) (by decide) ?_
      exact x_iret C dX12_numberOf_125 rfl
  · refine x_iconst C dX12_numberOf_11 (v := (0 : Int32)) (by decide) ?_
    exact x_iret C dX12_numberOf_12 rfl
def md_fair_L174 (p1 : Int32) (p2 : Int32) (p3 : Int32) (p4 : Int32) (p5 : Int32) (y6 : Int32) (y7 : Int32) (y8 : Int32) (y9 : Int32) (y10 : Int32) (y11 : Int32) (y12 : Int32) (y13 : Int32) (K : Mem → Option (Int32 × Mem)) : Nat → Int32 → Mem → Option (Int32 × Mem)
  | 0, _, _ => none
  | fu + 1, x14, M => (if x14 < y6 then bnd2 (md_numberOf (x14) (y6) (y13) M) fun v7 M6 => chk (inb x14 41) (lt1 (wr M6 15 x14.toNatClampNeg v7) fun M8 => md_fair_L174 p1 p2 p3 p4 p5 y6 y7 y8 y9 y10 y11 y12 y13 K fu ((x14 + (1 : Int32))) (M8)) else K (M))
def md_fair_L230 (p1 : Int32) (p2 : Int32) (p3 : Int32) (p4 : Int32) (p5 : Int32) (y6 : Int32) (y7 : Int32) (y8 : Int32) (y9 : Int32) (y10 : Int32) (y11 : Int32) (y12 : Int32) (y13 : Int32) (y14 : Int32) (y15 : Int32) (M : Mem) (K : Int32 → Option (Int32 × Mem)) : Nat → Int32 → Int32 → Option (Int32 × Mem)
  | 0, _, _ => none
  | fu + 1, x17, x18 => (if x18 < y6 then chk (inb x18 41) ((if (M 15 x18.toNatClampNeg) < 0 then md_fair_L230 p1 p2 p3 p4 p5 y6 y7 y8 y9 y10 y11 y12 y13 y14 y15 M K fu (x17) ((x18 + (1 : Int32))) else (if x17 = (-1 : Int32) then md_fair_L230 p1 p2 p3 p4 p5 y6 y7 y8 y9 y10 y11 y12 y13 y14 y15 M K fu (x18) ((x18 + (1 : Int32))) else chk (inb x18 41) (chk (inb x17 41) ((if (M 15 x17.toNatClampNeg) < (M 15 x18.toNatClampNeg) then md_fair_L230 p1 p2 p3 p4 p5 y6 y7 y8 y9 y10 y11 y12 y13 y14 y15 M K fu (x18) ((x18 + (1 : Int32))) else md_fair_L230 p1 p2 p3 p4 p5 y6 y7 y8 y9 y10 y11 y12 y13 y14 y15 M K fu (x17) ((x18 + (1 : Int32))))))))) else K (x17))
def md_fair_J359 (p1 : Int32) (p2 : Int32) (p3 : Int32) (p4 : Int32) (p5 : Int32) (rec : Int32 → Int32 → Int32 → Int32 → Int32 → Mem → Option (Int32 × Mem)) (K : Int32 → Int32 → Int32 → Int32 → Mem → Option (Int32 × Mem)) (x6 : Int32) (x7 : Int32) (x8 : Int32) (x9 : Int32) (x10 : Int32) (x11 : Int32) (x12 : Int32) (x13 : Int32) (x14 : Int32) (x15 : Int32) (x16 : Int32) (x17 : Int32) (x18 : Int32) (x19 : Int32) (s0 : Int32) (s1 : Int32) (M : Mem) : Option (Int32 × Mem) := chk (inb s1 41) (lt1 (wr M 15 s1.toNatClampNeg s0) fun M12 => (if x19 = 0 then rec (x9) (x10) (x14) (x15) (x16) (M12) else chk (inb x17 41) ((if x9 < (x13 - (M12 14 x17.toNatClampNeg)) then lt1 ((x10 + (x13 - (M12 14 x17.toNatClampNeg)))) fun v14 => rec ((x13 - (M12 14 x17.toNatClampNeg))) (v14) (x18) ((x15 + (1 : Int32))) (x16) (M12) else lt1 ((x10 + (x13 - (M12 14 x17.toNatClampNeg)))) fun v13 => rec (x9) (v13) (x18) ((x15 + (1 : Int32))) (x16) (M12)))))
def md_fair_J340 (p1 : Int32) (p2 : Int32) (p3 : Int32) (p4 : Int32) (p5 : Int32) (rec : Int32 → Int32 → Int32 → Int32 → Int32 → Mem → Option (Int32 × Mem)) (K : Int32 → Int32 → Int32 → Int32 → Mem → Option (Int32 × Mem)) (x6 : Int32) (x7 : Int32) (x8 : Int32) (x9 : Int32) (x10 : Int32) (x11 : Int32) (x12 : Int32) (x13 : Int32) (x14 : Int32) (x15 : Int32) (x16 : Int32) (x17 : Int32) (x18 : Int32) (s0 : Int32) (M : Mem) : Option (Int32 × Mem) := (if s0 = 0 then md_fair_J359 p1 p2 p3 p4 p5 rec K (x6) (x7) (x8) (x9) (x10) (x11) (x12) (x13) (x14) (x15) (x16) (x17) (x18) (s0) ((-1 : Int32)) (x17) M else md_fair_J359 p1 p2 p3 p4 p5 rec K (x6) (x7) (x8) (x9) (x10) (x11) (x12) (x13) (x14) (x15) (x16) (x17) (x18) (s0) ((-2 : Int32)) (x17) M)
def md_fair_J339 (p1 : Int32) (p2 : Int32) (p3 : Int32) (p4 : Int32) (p5 : Int32) (rec : Int32 → Int32 → Int32 → Int32 → Int32 → Mem → Option (Int32 × Mem)) (K : Int32 → Int32 → Int32 → Int32 → Mem → Option (Int32 × Mem)) (x6 : Int32) (x7 : Int32) (x8 : Int32) (x9 : Int32) (x10 : Int32) (x11 : Int32) (x12 : Int32) (x13 : Int32) (x14 : Int32) (x15 : Int32) (x16 : Int32) (x17 : Int32) (x18 : Int32) (M : Mem) : Option (Int32 × Mem) := md_fair_J340 p1 p2 p3 p4 p5 rec K (x6) (x7) (x8) (x9) (x10) (x11) (x12) (x13) (x14) (x15) (x16) (x17) (x18) ((0 : Int32)) M
def md_fair_J291 (p1 : Int32) (p2 : Int32) (p3 : Int32) (p4 : Int32) (p5 : Int32) (rec : Int32 → Int32 → Int32 → Int32 → Int32 → Mem → Option (Int32 × Mem)) (K : Int32 → Int32 → Int32 → Int32 → Mem → Option (Int32 × Mem)) (x6 : Int32) (x7 : Int32) (x8 : Int32) (x9 : Int32) (x10 : Int32) (x11 : Int32) (x12 : Int32) (x13 : Int32) (x14 : Int32) (x15 : Int32) (x17 : Int32) (s0 : Int32) (M : Mem) : Option (Int32 × Mem) := (if s0 = 0 then rec (x9) (x10) (x14) (x15) (s0) (M) else chk (inb x17 41) ((if (M 1 5) < (x14 + (M 13 x17.toNatClampNeg)) then md_fair_J339 p1 p2 p3 p4 p5 rec K (x6) (x7) (x8) (x9) (x10) (x11) (x12) (x13) (x14) (x15) (s0) (x17) ((x14 + (M 13 x17.toNatClampNeg))) M else (md_needOf ((x14 + (M 13 x17.toNatClampNeg))) M).bind fun v15 => (if p4 < v15 then md_fair_J339 p1 p2 p3 p4 p5 rec K (x6) (x7) (x8) (x9) (x10) (x11) (x12) (x13) (x14) (x15) (s0) (x17) ((x14 + (M 13 x17.toNatClampNeg))) M else md_fair_J340 p1 p2 p3 p4 p5 rec K (x6) (x7) (x8) (x9) (x10) (x11) (x12) (x13) (x14) (x15) (s0) (x17) ((x14 + (M 13 x17.toNatClampNeg))) ((1 : Int32)) M))))
def md_fair_L219 (p1 : Int32) (p2 : Int32) (p3 : Int32) (p4 : Int32) (p5 : Int32) (y6 : Int32) (y7 : Int32) (y8 : Int32) (y11 : Int32) (y12 : Int32) (y13 : Int32) (K : Int32 → Int32 → Int32 → Int32 → Mem → Option (Int32 × Mem)) : Nat → Int32 → Int32 → Int32 → Int32 → Int32 → Mem → Option (Int32 × Mem)
  | 0, _, _, _, _, _, _ => none
  | fu + 1, x9, x10, x14, x15, x16, M => (if x16 = 0 then K (x9) (x10) (x14) (x15) (M) else md_fair_L230 p1 p2 p3 p4 p5 (y6) (y7) (y8) (x9) (x10) (y11) (y12) (y13) (x14) (x15) M (fun v17_10 => (if v17_10 = (-1 : Int32) then md_fair_J291 p1 p2 p3 p4 p5 (fun a9 a10 a14 a15 a16 aM => md_fair_L219 p1 p2 p3 p4 p5 y6 y7 y8 y11 y12 y13 K fu a9 a10 a14 a15 a16 aM) K (y6) (y7) (y8) (x9) (x10) (y11) (y12) (y13) (x14) (x15) (v17_10) ((0 : Int32)) M else md_fair_J291 p1 p2 p3 p4 p5 (fun a9 a10 a14 a15 a16 aM => md_fair_L219 p1 p2 p3 p4 p5 y6 y7 y8 y11 y12 y13 K fu a9 a10 a14 a15 a16 aM) K (y6) (y7) (y8) (x9) (x10) (y11) (y12) (y13) (x14) (x15) (v17_10) ((1 : Int32)) M)) FU ((-1 : Int32)) ((0 : Int32)))
def md_fair_L472 (p1 : Int32) (p2 : Int32) (p3 : Int32) (p4 : Int32) (p5 : Int32) (y6 : Int32) (y7 : Int32) (y8 : Int32) (y9 : Int32) (y10 : Int32) (y11 : Int32) (y12 : Int32) (y13 : Int32) (K : Int32 → Mem → Option (Int32 × Mem)) : Nat → Int32 → Int32 → Mem → Option (Int32 × Mem)
  | 0, _, _, _ => none
  | fu + 1, x17, x18, M => (if x18 < y6 then chk (inb x18 41) ((if (M 15 x18.toNatClampNeg) = (-2 : Int32) then md_fair_L472 p1 p2 p3 p4 p5 y6 y7 y8 y9 y10 y11 y12 y13 K fu (x17) ((x18 + (1 : Int32))) (M) else chk (inb x18 41) (chk (inb x17 41) (lt1 (wr M 13 x17.toNatClampNeg (M 13 x18.toNatClampNeg)) fun M22 => chk (inb x18 41) (chk (inb x17 41) (lt1 (wr M22 14 x17.toNatClampNeg (M22 14 x18.toNatClampNeg)) fun M23 => md_fair_L472 p1 p2 p3 p4 p5 y6 y7 y8 y9 y10 y11 y12 y13 K fu ((x17 + (1 : Int32))) ((x18 + (1 : Int32))) (M23))))))) else K (x17) (M))
def md_fair_J156 (p1 : Int32) (p2 : Int32) (p3 : Int32) (p4 : Int32) (p5 : Int32) (rec : Int32 → Int32 → Int32 → Int32 → Int32 → Int32 → Int32 → Int32 → Mem → Option (Int32 × Mem)) (K : Int32 → Int32 → Int32 → Int32 → Int32 → Int32 → Mem → Option (Int32 × Mem)) (x6 : Int32) (x7 : Int32) (x8 : Int32) (x9 : Int32) (x10 : Int32) (x11 : Int32) (x12 : Int32) (x13 : Int32) (M : Mem) : Option (Int32 × Mem) := (if x13 < x12 then rec (x6) (x7) (x8) (x9) (x10) (x11) (x12) ((x13 + (1 : Int32))) (M) else (if x6 = 0 then rec (x6) (x7) (x8) (x9) (x10) (x11) (x12) ((x13 + (1 : Int32))) (M) else md_fair_L174 p1 p2 p3 p4 p5 (x6) (x7) (x8) (x9) (x10) (x11) (x12) (x13) (fun M10 => md_fair_L219 p1 p2 p3 p4 p5 (x6) (x7) (x8) (x11) (x12) (x13) (fun v9_15 v10_15 v14_15 v15_15 M17 => (if v15_15 = 0 then rec (x6) (x7) (x8) (v9_15) (v10_15) (x11) (x12) ((x13 + (1 : Int32))) (M17) else (md_needOf (v14_15) M17).bind fun v18 => (md_minutesBy (v18) (p4) M17).bind fun v19 => (md_needOf ((M17 1 6)) M17).bind fun v20 => (md_minutesBy (v20) (p4) M17).bind fun v21 => md_fair_L472 p1 p2 p3 p4 p5 (x6) ((x7 + v15_15)) (x8) (v9_15) (v10_15) ((x11 + (1 : Int32))) (((x13 + v19) + v21)) (x13) (fun v17_23 M25 => rec (v17_23) ((x7 + v15_15)) (x8) (v9_15) (v10_15) ((x11 + (1 : Int32))) (((x13 + v19) + v21)) ((x13 + (1 : Int32))) (M25)) FU ((0 : Int32)) ((0 : Int32)) M17)) FU (x9) (x10) ((M10 1 6)) ((0 : Int32)) ((1 : Int32)) M10) FU ((0 : Int32)) M))
def md_fair_L93 (p1 : Int32) (p2 : Int32) (p3 : Int32) (p4 : Int32) (p5 : Int32) (K : Int32 → Int32 → Int32 → Int32 → Int32 → Int32 → Mem → Option (Int32 × Mem)) : Nat → Int32 → Int32 → Int32 → Int32 → Int32 → Int32 → Int32 → Int32 → Mem → Option (Int32 × Mem)
  | 0, _, _, _, _, _, _, _, _, _ => none
  | fu + 1, x6, x7, x8, x9, x10, x11, x12, x13, M => (if x13 < p2 then bnd2 (md_draw ((100 : Int32)) M) fun v5 M4 => (if v5 < p3 then bnd2 (md_draw ((9 : Int32)) M4) fun v27 M26 => (if x6 = (40 : Int32) then md_fair_J156 p1 p2 p3 p4 p5 (fun a6 a7 a8 a9 a10 a11 a12 a13 aM => md_fair_L93 p1 p2 p3 p4 p5 K fu a6 a7 a8 a9 a10 a11 a12 a13 aM) K (x6) (x7) ((x8 + (1 : Int32))) (x9) (x10) (x11) (x12) (x13) M26 else chk (inb x6 41) (lt1 (wr M26 13 x6.toNatClampNeg ((10 : Int32) * (v27 + (1 : Int32)))) fun M28 => chk (inb x6 41) (lt1 (wr M28 14 x6.toNatClampNeg x13) fun M29 => md_fair_J156 p1 p2 p3 p4 p5 (fun a6 a7 a8 a9 a10 a11 a12 a13 aM => md_fair_L93 p1 p2 p3 p4 p5 K fu a6 a7 a8 a9 a10 a11 a12 a13 aM) K ((x6 + (1 : Int32))) (x7) (x8) (x9) (x10) (x11) (x12) (x13) M29))) else md_fair_J156 p1 p2 p3 p4 p5 (fun a6 a7 a8 a9 a10 a11 a12 a13 aM => md_fair_L93 p1 p2 p3 p4 p5 K fu a6 a7 a8 a9 a10 a11 a12 a13 aM) K (x6) (x7) (x8) (x9) (x10) (x11) (x12) (x13) M4) else K (x6) (x7) (x8) (x9) (x10) (x11) (M))
def md_fair_J52 (p1 : Int32) (p2 : Int32) (p3 : Int32) (p4 : Int32) (p5 : Int32) (s0 : Int32) (M : Mem) : Option (Int32 × Mem) := lt1 (wr M 0 0 s0) fun M2 => (if 0 < (M2 0 0) then some ((0 : Int32), M2) else lt1 (wr M2 0 27 p1) fun M3 => md_fair_L93 p1 p2 p3 p4 p5 (fun v6_29 v7_29 v8_29 v9_29 v10_29 v11_29 M31 => (if p5 = 0 then some (v7_29, M31) else (if p5 = (1 : Int32) then some (v6_29, M31) else (if p5 = (2 : Int32) then some (v8_29, M31) else (if p5 = (3 : Int32) then some (v9_29, M31) else (if p5 = (4 : Int32) then some (v10_29, M31) else some (v11_29, M31))))))) FU ((0 : Int32)) ((0 : Int32)) ((0 : Int32)) ((0 : Int32)) ((0 : Int32)) ((0 : Int32)) ((0 : Int32)) ((0 : Int32)) M3)
def md_fair_J33 (p1 : Int32) (p2 : Int32) (p3 : Int32) (p4 : Int32) (p5 : Int32) (M : Mem) : Option (Int32 × Mem) := md_fair_J52 p1 p2 p3 p4 p5 ((1 : Int32)) M
def md_fair (p1 : Int32) (p2 : Int32) (p3 : Int32) (p4 : Int32) (p5 : Int32) (M : Mem) : Option (Int32 × Mem) := (md_isIn (p2) ((0 : Int32)) ((600 : Int32)) M).bind fun v1 => (if v1 = 0 then md_fair_J33 p1 p2 p3 p4 p5 M else (md_isIn (p3) ((0 : Int32)) ((100 : Int32)) M).bind fun v32 => (if v32 = 0 then md_fair_J33 p1 p2 p3 p4 p5 M else (md_isIn (p4) ((1 : Int32)) ((99 : Int32)) M).bind fun v33 => (if v33 = 0 then md_fair_J33 p1 p2 p3 p4 p5 M else (md_isIn (p5) ((0 : Int32)) ((5 : Int32)) M).bind fun v34 => (if v34 = 0 then md_fair_J52 p1 p2 p3 p4 p5 ((2 : Int32)) M else md_fair_J52 p1 p2 p3 p4 p5 ((0 : Int32)) M))))
set_option maxHeartbeats 4000000 in
set_option maxRecDepth 20000 in
theorem w_md_fair_L174 {z : ZT} {l : Launch} {g : GG} {b : Nat} (C : Cx z l g (wM b) (rmd 133) cX12_fair 21 RX12 (some .int)) (p1 : Int32) (p2 : Int32) (p3 : Int32) (p4 : Int32) (p5 : Int32) (y6 : Int32) (y7 : Int32) (y8 : Int32) (y9 : Int32) (y10 : Int32) (y11 : Int32) (y12 : Int32) (y13 : Int32) {K : Mem → Option (Int32 × Mem)} (hK : ∀ (M : Mem) , XG z g (wM b) 21 (ZQ z g (wM b) finM) 0 0 204 [some (.ref ((wM b).2.2.2 + 0)), none, some (.int p2), some (.int p3), some (.int p4), some (.int p5), some (.int y6), some (.int y7), some (.int y8), some (.int y9), some (.int y10), some (.int y11), some (.int y12), some (.int y13), none, none, none, none, none, none, none] [] M (K M)) : ∀ (fu : Nat) (x14 : Int32) (M : Mem), XG z g (wM b) 21 (ZQ z g (wM b) finM) 0 0 174 [some (.ref ((wM b).2.2.2 + 0)), none, some (.int p2), some (.int p3), some (.int p4), some (.int p5), some (.int y6), some (.int y7), some (.int y8), some (.int y9), some (.int y10), some (.int y11), some (.int y12), some (.int y13), some (.int x14), none, none, none, none, none, none] [] M (md_fair_L174 p1 p2 p3 p4 p5 y6 y7 y8 y9 y10 y11 y12 y13 K fu x14 M) := by
  intro fu
  induction fu with
  | zero => intro x14 M; exact x_none
  | succ fu ih =>
    intro x14 M
    rw [md_fair_L174]
    refine x_iload C dX12_fair_174 (x := x14) rfl ?_
    refine x_iload C dX12_fair_176 (x := y6) rfl ?_
    refine x_icmpge C dX12_fair_178 (tgt := 204) (by decide) (fun _h => ?_) (fun _h => ?_)
    · exact x_wk (L' := [some (.ref ((wM b).2.2.2 + 0)), none, some (.int p2), some (.int p3), some (.int p4), some (.int p5), some (.int y6), some (.int y7), some (.int y8), some (.int y9), some (.int y10), some (.int y11), some (.int y12), some (.int y13), none, none, none, none, none, none, none]) (And.intro rfl (And.intro rfl (And.intro rfl (And.intro rfl (And.intro rfl (And.intro rfl (And.intro rfl (And.intro rfl (And.intro rfl (And.intro rfl (And.intro rfl (And.intro rfl (And.intro rfl trivial))))))))))))) (hK (M))
    · refine x_aloadn C dX12_fair_181 rfl ?_
      refine x_getR C fl_X12_56 cl_11 (15) nM0 kM0 fM0_26 dX12_fair_182 ?_
      refine x_iload C dX12_fair_185 (x := x14) rfl ?_
      refine x_aloadn C dX12_fair_187 rfl ?_
      refine x_iload C dX12_fair_188 (x := x14) rfl ?_
      refine x_iload C dX12_fair_190 (x := y6) rfl ?_
      refine x_iload C dX12_fair_192 (x := y13) rfl ?_
      refine x_Vm (st := [.int x14, .ref ((wM b).2.2.2 + 15)]) C (c_md_numberOf  (x14) (y6) (y13) M) lk_X12_294 nM0 kM0 ⟨_, _, rfl⟩ rfl rfl (Nat.le_of_ble_eq_true rfl) (rmok_d (by decide) (by decide)) ⟨Nat.zero_le _, Nat.zero_le _⟩ dX12_fair_194 (fun v7 M6 => ?_)
      refine x_iast C nM15 kM15 dX12_fair_197 ?_
      refine x_ltM (fun M8 => ?_)
      refine x_iinc C dX12_fair_198 (v := (x14 + (1 : Int32))) rfl rfl (L' := [some (.ref ((wM b).2.2.2 + 0)), none, some (.int p2), some (.int p3), some (.int p4), some (.int p5), some (.int y6), some (.int y7), some (.int y8), some (.int y9), some (.int y10), some (.int y11), some (.int y12), some (.int y13), some (.int (x14 + (1 : Int32))), none, none, none, none, none, none]) rfl ?_
      refine x_goto C dX12_fair_201 (tgt := 174) (by decide) ?_
      exact x_wk (L' := [some (.ref ((wM b).2.2.2 + 0)), none, some (.int p2), some (.int p3), some (.int p4), some (.int p5), some (.int y6), some (.int y7), some (.int y8), some (.int y9), some (.int y10), some (.int y11), some (.int y12), some (.int y13), some (.int (x14 + (1 : Int32))), none, none, none, none, none, none]) (And.intro rfl (And.intro rfl (And.intro rfl (And.intro rfl (And.intro rfl (And.intro rfl (And.intro rfl (And.intro rfl (And.intro rfl (And.intro rfl (And.intro rfl (And.intro rfl (And.intro rfl (And.intro rfl trivial)))))))))))))) (ih ((x14 + (1 : Int32))) (M8))
set_option maxHeartbeats 4000000 in
set_option maxRecDepth 20000 in
theorem w_md_fair_L230 {z : ZT} {l : Launch} {g : GG} {b : Nat} (C : Cx z l g (wM b) (rmd 133) cX12_fair 21 RX12 (some .int)) (p1 : Int32) (p2 : Int32) (p3 : Int32) (p4 : Int32) (p5 : Int32) (y6 : Int32) (y7 : Int32) (y8 : Int32) (y9 : Int32) (y10 : Int32) (y11 : Int32) (y12 : Int32) (y13 : Int32) (y14 : Int32) (y15 : Int32) (M : Mem) {K : Int32 → Option (Int32 × Mem)} (hK : ∀ (x17 : Int32) , XG z g (wM b) 21 (ZQ z g (wM b) finM) 0 0 280 [some (.ref ((wM b).2.2.2 + 0)), none, some (.int p2), some (.int p3), some (.int p4), some (.int p5), some (.int y6), some (.int y7), some (.int y8), some (.int y9), some (.int y10), some (.int y11), some (.int y12), some (.int y13), some (.int y14), some (.int y15), none, some (.int x17), none, none, none] [] M (K x17)) : ∀ (fu : Nat) (x17 : Int32) (x18 : Int32), XG z g (wM b) 21 (ZQ z g (wM b) finM) 0 0 230 [some (.ref ((wM b).2.2.2 + 0)), none, some (.int p2), some (.int p3), some (.int p4), some (.int p5), some (.int y6), some (.int y7), some (.int y8), some (.int y9), some (.int y10), some (.int y11), some (.int y12), some (.int y13), some (.int y14), some (.int y15), none, some (.int x17), some (.int x18), none, none] [] M (md_fair_L230 p1 p2 p3 p4 p5 y6 y7 y8 y9 y10 y11 y12 y13 y14 y15 M K fu x17 x18) := by
  intro fu
  induction fu with
  | zero => intro x17 x18; exact x_none
  | succ fu ih =>
    intro x17 x18
    rw [md_fair_L230]
    refine x_iload C dX12_fair_230 (x := x18) rfl ?_
    refine x_iload C dX12_fair_232 (x := y6) rfl ?_
    refine x_icmpge C dX12_fair_234 (tgt := 280) (by decide) (fun _h => ?_) (fun _h => ?_)
    · exact x_wk (L' := [some (.ref ((wM b).2.2.2 + 0)), none, some (.int p2), some (.int p3), some (.int p4), some (.int p5), some (.int y6), some (.int y7), some (.int y8), some (.int y9), some (.int y10), some (.int y11), some (.int y12), some (.int y13), some (.int y14), some (.int y15), none, some (.int x17), none, none, none]) (And.intro rfl (And.intro rfl (And.intro rfl (And.intro rfl (And.intro rfl (And.intro rfl (And.intro rfl (And.intro rfl (And.intro rfl (And.intro rfl (And.intro rfl (And.intro rfl (And.intro rfl (And.intro rfl (And.intro rfl (And.intro rfl trivial)))))))))))))))) (hK (x17))
    · refine x_aloadn C dX12_fair_237 rfl ?_
      refine x_getR C fl_X12_56 cl_11 (15) nM0 kM0 fM0_26 dX12_fair_238 ?_
      refine x_iload C dX12_fair_241 (x := x18) rfl ?_
      refine x_iald C nM15 kM15 dX12_fair_243 ?_
      refine x_iflt C dX12_fair_244 (tgt := 274) (by decide) (fun _h => ?_) (fun _h => ?_)
      · refine x_iinc C dX12_fair_274 (v := (x18 + (1 : Int32))) rfl rfl (L' := [some (.ref ((wM b).2.2.2 + 0)), none, some (.int p2), some (.int p3), some (.int p4), some (.int p5), some (.int y6), some (.int y7), some (.int y8), some (.int y9), some (.int y10), some (.int y11), some (.int y12), some (.int y13), some (.int y14), some (.int y15), none, some (.int x17), some (.int (x18 + (1 : Int32))), none, none]) rfl ?_
        refine x_goto C dX12_fair_277 (tgt := 230) (by decide) ?_
        exact x_wk (L' := [some (.ref ((wM b).2.2.2 + 0)), none, some (.int p2), some (.int p3), some (.int p4), some (.int p5), some (.int y6), some (.int y7), some (.int y8), some (.int y9), some (.int y10), some (.int y11), some (.int y12), some (.int y13), some (.int y14), some (.int y15), none, some (.int x17), some (.int (x18 + (1 : Int32))), none, none]) (And.intro rfl (And.intro rfl (And.intro rfl (And.intro rfl (And.intro rfl (And.intro rfl (And.intro rfl (And.intro rfl (And.intro rfl (And.intro rfl (And.intro rfl (And.intro rfl (And.intro rfl (And.intro rfl (And.intro rfl (And.intro rfl (And.intro rfl trivial))))))))))))))))) (ih (x17) ((x18 + (1 : Int32))))
      · refine x_iload C dX12_fair_247 (x := x17) rfl ?_
        refine x_iconst C dX12_fair_249 (v := (-1 : Int32)) (by decide) ?_
        refine x_icmpeq C dX12_fair_250 (tgt := 270) (by decide) (fun _h => ?_) (fun _h => ?_)
        · refine x_iload C dX12_fair_270 (x := x18) rfl ?_
          refine x_istore C dX12_fair_272 (L' := [some (.ref ((wM b).2.2.2 + 0)), none, some (.int p2), some (.int p3), some (.int p4), some (.int p5), some (.int y6), some (.int y7), some (.int y8), some (.int y9), some (.int y10), some (.int y11), some (.int y12), some (.int y13), some (.int y14), some (.int y15), none, some (.int x18), some (.int x18), none, none]) (ltb rfl) rfl ?_
          refine x_iinc C dX12_fair_274 (v := (x18 + (1 : Int32))) rfl rfl (L' := [some (.ref ((wM b).2.2.2 + 0)), none, some (.int p2), some (.int p3), some (.int p4), some (.int p5), some (.int y6), some (.int y7), some (.int y8), some (.int y9), some (.int y10), some (.int y11), some (.int y12), some (.int y13), some (.int y14), some (.int y15), none, some (.int x18), some (.int (x18 + (1 : Int32))), none, none]) rfl ?_
          refine x_goto C dX12_fair_277 (tgt := 230) (by decide) ?_
          exact x_wk (L' := [some (.ref ((wM b).2.2.2 + 0)), none, some (.int p2), some (.int p3), some (.int p4), some (.int p5), some (.int y6), some (.int y7), some (.int y8), some (.int y9), some (.int y10), some (.int y11), some (.int y12), some (.int y13), some (.int y14), some (.int y15), none, some (.int x18), some (.int (x18 + (1 : Int32))), none, none]) (And.intro rfl (And.intro rfl (And.intro rfl (And.intro rfl (And.intro rfl (And.intro rfl (And.intro rfl (And.intro rfl (And.intro rfl (And.intro rfl (And.intro rfl (And.intro rfl (And.intro rfl (And.intro rfl (And.intro rfl (And.intro rfl (And.intro rfl trivial))))))))))))))))) (ih (x18) ((x18 + (1 : Int32))))
        · refine x_aloadn C dX12_fair_253 rfl ?_
          refine x_getR C fl_X12_56 cl_11 (15) nM0 kM0 fM0_26 dX12_fair_254 ?_
          refine x_iload C dX12_fair_257 (x := x18) rfl ?_
          refine x_iald C nM15 kM15 dX12_fair_259 ?_
          refine x_aloadn C dX12_fair_260 rfl ?_
          refine x_getR C fl_X12_56 cl_11 (15) nM0 kM0 fM0_26 dX12_fair_261 ?_
          refine x_iload C dX12_fair_264 (x := x17) rfl ?_
          refine x_iald C nM15 kM15 dX12_fair_266 ?_
          refine x_icmple C dX12_fair_267 (tgt := 274) (by decide) (fun _h => ?_) (fun _h => ?_)
          · refine x_iinc C dX12_fair_274 (v := (x18 + (1 : Int32))) rfl rfl (L' := [some (.ref ((wM b).2.2.2 + 0)), none, some (.int p2), some (.int p3), some (.int p4), some (.int p5), some (.int y6), some (.int y7), some (.int y8), some (.int y9), some (.int y10), some (.int y11), some (.int y12), some (.int y13), some (.int y14), some (.int y15), none, some (.int x17), some (.int (x18 + (1 : Int32))), none, none]) rfl ?_
            refine x_goto C dX12_fair_277 (tgt := 230) (by decide) ?_
            exact x_wk (L' := [some (.ref ((wM b).2.2.2 + 0)), none, some (.int p2), some (.int p3), some (.int p4), some (.int p5), some (.int y6), some (.int y7), some (.int y8), some (.int y9), some (.int y10), some (.int y11), some (.int y12), some (.int y13), some (.int y14), some (.int y15), none, some (.int x17), some (.int (x18 + (1 : Int32))), none, none]) (And.intro rfl (And.intro rfl (And.intro rfl (And.intro rfl (And.intro rfl (And.intro rfl (And.intro rfl (And.intro rfl (And.intro rfl (And.intro rfl (And.intro rfl (And.intro rfl (And.intro rfl (And.intro rfl (And.intro rfl (And.intro rfl (And.intro rfl trivial))))))))))))))))) (ih (x17) ((x18 + (1 : Int32))))
          · refine x_iload C dX12_fair_270 (x := x18) rfl ?_
            refine x_istore C dX12_fair_272 (L' := [some (.ref ((wM b).2.2.2 + 0)), none, some (.int p2), some (.int p3), some (.int p4), some (.int p5), some (.int y6), some (.int y7), some (.int y8), some (.int y9), some (.int y10), some (.int y11), some (.int y12), some (.int y13), some (.int y14), some (.int y15), none, some (.int x18), some (.int x18), none, none]) (ltb rfl) rfl ?_
            refine x_iinc C dX12_fair_274 (v := (x18 + (1 : Int32))) rfl rfl (L' := [some (.ref ((wM b).2.2.2 + 0)), none, some (.int p2), some (.int p3), some (.int p4), some (.int p5), some (.int y6), some (.int y7), some (.int y8), some (.int y9), some (.int y10), some (.int y11), some (.int y12), some (.int y13), some (.int y14), some (.int y15), none, some (.int x18), some (.int (x18 + (1 : Int32))), none, none]) rfl ?_
            refine x_goto C dX12_fair_277 (tgt := 230) (by decide) ?_
            exact x_wk (L' := [some (.ref ((wM b).2.2.2 + 0)), none, some (.int p2), some (.int p3), some (.int p4), some (.int p5), some (.int y6), some (.int y7), some (.int y8), some (.int y9), some (.int y10), some (.int y11), some (.int y12), some (.int y13), some (.int y14), some (.int y15), none, some (.int x18), some (.int (x18 + (1 : Int32))), none, none]) (And.intro rfl (And.intro rfl (And.intro rfl (And.intro rfl (And.intro rfl (And.intro rfl (And.intro rfl (And.intro rfl (And.intro rfl (And.intro rfl (And.intro rfl (And.intro rfl (And.intro rfl (And.intro rfl (And.intro rfl (And.intro rfl (And.intro rfl trivial))))))))))))))))) (ih (x18) ((x18 + (1 : Int32))))
set_option maxHeartbeats 4000000 in
set_option maxRecDepth 20000 in
theorem w_md_fair_J359 {z : ZT} {l : Launch} {g : GG} {b : Nat} (C : Cx z l g (wM b) (rmd 133) cX12_fair 21 RX12 (some .int)) (p1 : Int32) (p2 : Int32) (p3 : Int32) (p4 : Int32) (p5 : Int32) (x6 : Int32) (x7 : Int32) (x8 : Int32) (x11 : Int32) (x12 : Int32) (x13 : Int32) {rec : Int32 → Int32 → Int32 → Int32 → Int32 → Mem → Option (Int32 × Mem)} (hrec : ∀ (u9 : Int32) (u10 : Int32) (u14 : Int32) (u15 : Int32) (u16 : Int32) (M : Mem) , XG z g (wM b) 21 (ZQ z g (wM b) finM) 0 0 219 [some (.ref ((wM b).2.2.2 + 0)), none, some (.int p2), some (.int p3), some (.int p4), some (.int p5), some (.int x6), some (.int x7), some (.int x8), some (.int u9), some (.int u10), some (.int x11), some (.int x12), some (.int x13), some (.int u14), some (.int u15), some (.int u16), none, none, none, none] [] M (rec u9 u10 u14 u15 u16 M)) {K : Int32 → Int32 → Int32 → Int32 → Mem → Option (Int32 × Mem)} (hK : ∀ (u9 : Int32) (u10 : Int32) (u14 : Int32) (u15 : Int32) (M : Mem) , XG z g (wM b) 21 (ZQ z g (wM b) finM) 0 0 413 [some (.ref ((wM b).2.2.2 + 0)), none, some (.int p2), some (.int p3), some (.int p4), some (.int p5), some (.int x6), some (.int x7), some (.int x8), some (.int u9), some (.int u10), some (.int x11), some (.int x12), some (.int x13), some (.int u14), some (.int u15), none, none, none, none, none] [] M (K u9 u10 u14 u15 M)) (x9 : Int32) (x10 : Int32) (x14 : Int32) (x15 : Int32) (x16 : Int32) (x17 : Int32) (x18 : Int32) (x19 : Int32) (s0 : Int32) (s1 : Int32) (M : Mem) : XG z g (wM b) 21 (ZQ z g (wM b) finM) 0 0 359 [some (.ref ((wM b).2.2.2 + 0)), none, some (.int p2), some (.int p3), some (.int p4), some (.int p5), some (.int x6), some (.int x7), some (.int x8), some (.int x9), some (.int x10), some (.int x11), some (.int x12), some (.int x13), some (.int x14), some (.int x15), some (.int x16), some (.int x17), some (.int x18), some (.int x19), none] [.int s0, .int s1, .ref ((wM b).2.2.2 + 15)] M (md_fair_J359 p1 p2 p3 p4 p5 rec K x6 x7 x8 x9 x10 x11 x12 x13 x14 x15 x16 x17 x18 x19 s0 s1 M) := by
  rw [md_fair_J359]
  refine x_iast C nM15 kM15 dX12_fair_359 ?_
  refine x_ltM (fun M12 => ?_)
  refine x_iload C dX12_fair_360 (x := x19) rfl ?_
  refine x_ifne C dX12_fair_362 (tgt := 368) (by decide) (fun _h => ?_) (fun _h => ?_)
  · refine x_iload C dX12_fair_368 (x := x18) rfl ?_
    refine x_istore C dX12_fair_370 (L' := [some (.ref ((wM b).2.2.2 + 0)), none, some (.int p2), some (.int p3), some (.int p4), some (.int p5), some (.int x6), some (.int x7), some (.int x8), some (.int x9), some (.int x10), some (.int x11), some (.int x12), some (.int x13), some (.int x18), some (.int x15), some (.int x16), some (.int x17), some (.int x18), some (.int x19), none]) (ltb rfl) rfl ?_
    refine x_iinc C dX12_fair_372 (v := (x15 + (1 : Int32))) rfl rfl (L' := [some (.ref ((wM b).2.2.2 + 0)), none, some (.int p2), some (.int p3), some (.int p4), some (.int p5), some (.int x6), some (.int x7), some (.int x8), some (.int x9), some (.int x10), some (.int x11), some (.int x12), some (.int x13), some (.int x18), some (.int (x15 + (1 : Int32))), some (.int x16), some (.int x17), some (.int x18), some (.int x19), none]) rfl ?_
    refine x_iload C dX12_fair_375 (x := x13) rfl ?_
    refine x_aloadn C dX12_fair_377 rfl ?_
    refine x_getR C fl_X12_53 cl_11 (14) nM0 kM0 fM0_25 dX12_fair_378 ?_
    refine x_iload C dX12_fair_381 (x := x17) rfl ?_
    refine x_iald C nM14 kM14 dX12_fair_383 ?_
    refine x_isub C dX12_fair_384 ?_
    refine x_istore C dX12_fair_385 (L' := [some (.ref ((wM b).2.2.2 + 0)), none, some (.int p2), some (.int p3), some (.int p4), some (.int p5), some (.int x6), some (.int x7), some (.int x8), some (.int x9), some (.int x10), some (.int x11), some (.int x12), some (.int x13), some (.int x18), some (.int (x15 + (1 : Int32))), some (.int x16), some (.int x17), some (.int x18), some (.int x19), some (.int (x13 - (M12 14 x17.toNatClampNeg)))]) (ltb rfl) rfl ?_
    refine x_iload C dX12_fair_387 (x := (x13 - (M12 14 x17.toNatClampNeg))) rfl ?_
    refine x_iload C dX12_fair_389 (x := x9) rfl ?_
    refine x_icmple C dX12_fair_391 (tgt := 399) (by decide) (fun _h => ?_) (fun _h => ?_)
    · refine x_iload C dX12_fair_399 (x := x9) rfl ?_
      refine x_istore C dX12_fair_401 (L' := [some (.ref ((wM b).2.2.2 + 0)), none, some (.int p2), some (.int p3), some (.int p4), some (.int p5), some (.int x6), some (.int x7), some (.int x8), some (.int x9), some (.int x10), some (.int x11), some (.int x12), some (.int x13), some (.int x18), some (.int (x15 + (1 : Int32))), some (.int x16), some (.int x17), some (.int x18), some (.int x19), some (.int (x13 - (M12 14 x17.toNatClampNeg)))]) (ltb rfl) rfl ?_
      refine x_iload C dX12_fair_403 (x := x10) rfl ?_
      refine x_iload C dX12_fair_405 (x := (x13 - (M12 14 x17.toNatClampNeg))) rfl ?_
      refine x_iadd C dX12_fair_407 ?_
      refine x_lti (fun v13 => ?_)
      refine x_istore C dX12_fair_408 (L' := [some (.ref ((wM b).2.2.2 + 0)), none, some (.int p2), some (.int p3), some (.int p4), some (.int p5), some (.int x6), some (.int x7), some (.int x8), some (.int x9), some (.int v13), some (.int x11), some (.int x12), some (.int x13), some (.int x18), some (.int (x15 + (1 : Int32))), some (.int x16), some (.int x17), some (.int x18), some (.int x19), some (.int (x13 - (M12 14 x17.toNatClampNeg)))]) (ltb rfl) rfl ?_
      refine x_goto C dX12_fair_410 (tgt := 219) (by decide) ?_
      exact x_wk (L' := [some (.ref ((wM b).2.2.2 + 0)), none, some (.int p2), some (.int p3), some (.int p4), some (.int p5), some (.int x6), some (.int x7), some (.int x8), some (.int x9), some (.int v13), some (.int x11), some (.int x12), some (.int x13), some (.int x18), some (.int (x15 + (1 : Int32))), some (.int x16), none, none, none, none]) (And.intro rfl (And.intro rfl (And.intro rfl (And.intro rfl (And.intro rfl (And.intro rfl (And.intro rfl (And.intro rfl (And.intro rfl (And.intro rfl (And.intro rfl (And.intro rfl (And.intro rfl (And.intro rfl (And.intro rfl (And.intro rfl trivial)))))))))))))))) (hrec (x9) (v13) (x18) ((x15 + (1 : Int32))) (x16) (M12))
    · refine x_iload C dX12_fair_394 (x := (x13 - (M12 14 x17.toNatClampNeg))) rfl ?_
      refine x_goto C dX12_fair_396 (tgt := 401) (by decide) ?_
      refine x_istore C dX12_fair_401 (L' := [some (.ref ((wM b).2.2.2 + 0)), none, some (.int p2), some (.int p3), some (.int p4), some (.int p5), some (.int x6), some (.int x7), some (.int x8), some (.int (x13 - (M12 14 x17.toNatClampNeg))), some (.int x10), some (.int x11), some (.int x12), some (.int x13), some (.int x18), some (.int (x15 + (1 : Int32))), some (.int x16), some (.int x17), some (.int x18), some (.int x19), some (.int (x13 - (M12 14 x17.toNatClampNeg)))]) (ltb rfl) rfl ?_
      refine x_iload C dX12_fair_403 (x := x10) rfl ?_
      refine x_iload C dX12_fair_405 (x := (x13 - (M12 14 x17.toNatClampNeg))) rfl ?_
      refine x_iadd C dX12_fair_407 ?_
      refine x_lti (fun v14 => ?_)
      refine x_istore C dX12_fair_408 (L' := [some (.ref ((wM b).2.2.2 + 0)), none, some (.int p2), some (.int p3), some (.int p4), some (.int p5), some (.int x6), some (.int x7), some (.int x8), some (.int (x13 - (M12 14 x17.toNatClampNeg))), some (.int v14), some (.int x11), some (.int x12), some (.int x13), some (.int x18), some (.int (x15 + (1 : Int32))), some (.int x16), some (.int x17), some (.int x18), some (.int x19), some (.int (x13 - (M12 14 x17.toNatClampNeg)))]) (ltb rfl) rfl ?_
      refine x_goto C dX12_fair_410 (tgt := 219) (by decide) ?_
      exact x_wk (L' := [some (.ref ((wM b).2.2.2 + 0)), none, some (.int p2), some (.int p3), some (.int p4), some (.int p5), some (.int x6), some (.int x7), some (.int x8), some (.int (x13 - (M12 14 x17.toNatClampNeg))), some (.int v14), some (.int x11), some (.int x12), some (.int x13), some (.int x18), some (.int (x15 + (1 : Int32))), some (.int x16), none, none, none, none]) (And.intro rfl (And.intro rfl (And.intro rfl (And.intro rfl (And.intro rfl (And.intro rfl (And.intro rfl (And.intro rfl (And.intro rfl (And.intro rfl (And.intro rfl (And.intro rfl (And.intro rfl (And.intro rfl (And.intro rfl (And.intro rfl trivial)))))))))))))))) (hrec ((x13 - (M12 14 x17.toNatClampNeg))) (v14) (x18) ((x15 + (1 : Int32))) (x16) (M12))
  · refine x_goto C dX12_fair_365 (tgt := 219) (by decide) ?_
    exact x_wk (L' := [some (.ref ((wM b).2.2.2 + 0)), none, some (.int p2), some (.int p3), some (.int p4), some (.int p5), some (.int x6), some (.int x7), some (.int x8), some (.int x9), some (.int x10), some (.int x11), some (.int x12), some (.int x13), some (.int x14), some (.int x15), some (.int x16), none, none, none, none]) (And.intro rfl (And.intro rfl (And.intro rfl (And.intro rfl (And.intro rfl (And.intro rfl (And.intro rfl (And.intro rfl (And.intro rfl (And.intro rfl (And.intro rfl (And.intro rfl (And.intro rfl (And.intro rfl (And.intro rfl (And.intro rfl trivial)))))))))))))))) (hrec (x9) (x10) (x14) (x15) (x16) (M12))
set_option maxHeartbeats 4000000 in
set_option maxRecDepth 20000 in
theorem w_md_fair_J340 {z : ZT} {l : Launch} {g : GG} {b : Nat} (C : Cx z l g (wM b) (rmd 133) cX12_fair 21 RX12 (some .int)) (p1 : Int32) (p2 : Int32) (p3 : Int32) (p4 : Int32) (p5 : Int32) (x6 : Int32) (x7 : Int32) (x8 : Int32) (x11 : Int32) (x12 : Int32) (x13 : Int32) {rec : Int32 → Int32 → Int32 → Int32 → Int32 → Mem → Option (Int32 × Mem)} (hrec : ∀ (u9 : Int32) (u10 : Int32) (u14 : Int32) (u15 : Int32) (u16 : Int32) (M : Mem) , XG z g (wM b) 21 (ZQ z g (wM b) finM) 0 0 219 [some (.ref ((wM b).2.2.2 + 0)), none, some (.int p2), some (.int p3), some (.int p4), some (.int p5), some (.int x6), some (.int x7), some (.int x8), some (.int u9), some (.int u10), some (.int x11), some (.int x12), some (.int x13), some (.int u14), some (.int u15), some (.int u16), none, none, none, none] [] M (rec u9 u10 u14 u15 u16 M)) {K : Int32 → Int32 → Int32 → Int32 → Mem → Option (Int32 × Mem)} (hK : ∀ (u9 : Int32) (u10 : Int32) (u14 : Int32) (u15 : Int32) (M : Mem) , XG z g (wM b) 21 (ZQ z g (wM b) finM) 0 0 413 [some (.ref ((wM b).2.2.2 + 0)), none, some (.int p2), some (.int p3), some (.int p4), some (.int p5), some (.int x6), some (.int x7), some (.int x8), some (.int u9), some (.int u10), some (.int x11), some (.int x12), some (.int x13), some (.int u14), some (.int u15), none, none, none, none, none] [] M (K u9 u10 u14 u15 M)) (x9 : Int32) (x10 : Int32) (x14 : Int32) (x15 : Int32) (x16 : Int32) (x17 : Int32) (x18 : Int32) (s0 : Int32) (M : Mem) : XG z g (wM b) 21 (ZQ z g (wM b) finM) 0 0 340 [some (.ref ((wM b).2.2.2 + 0)), none, some (.int p2), some (.int p3), some (.int p4), some (.int p5), some (.int x6), some (.int x7), some (.int x8), some (.int x9), some (.int x10), some (.int x11), some (.int x12), some (.int x13), some (.int x14), some (.int x15), some (.int x16), some (.int x17), some (.int x18), none, none] [.int s0] M (md_fair_J340 p1 p2 p3 p4 p5 rec K x6 x7 x8 x9 x10 x11 x12 x13 x14 x15 x16 x17 x18 s0 M) := by
  rw [md_fair_J340]
  refine x_istore C dX12_fair_340 (L' := [some (.ref ((wM b).2.2.2 + 0)), none, some (.int p2), some (.int p3), some (.int p4), some (.int p5), some (.int x6), some (.int x7), some (.int x8), some (.int x9), some (.int x10), some (.int x11), some (.int x12), some (.int x13), some (.int x14), some (.int x15), some (.int x16), some (.int x17), some (.int x18), some (.int s0), none]) (ltb rfl) rfl ?_
  refine x_aloadn C dX12_fair_342 rfl ?_
  refine x_getR C fl_X12_56 cl_11 (15) nM0 kM0 fM0_26 dX12_fair_343 ?_
  refine x_iload C dX12_fair_346 (x := x17) rfl ?_
  refine x_iload C dX12_fair_348 (x := s0) rfl ?_
  refine x_ifeq C dX12_fair_350 (tgt := 358) (by decide) (fun _h => ?_) (fun _h => ?_)
  · refine x_iconst C dX12_fair_358 (v := (-1 : Int32)) (by decide) ?_
    exact x_wk (L' := [some (.ref ((wM b).2.2.2 + 0)), none, some (.int p2), some (.int p3), some (.int p4), some (.int p5), some (.int x6), some (.int x7), some (.int x8), some (.int x9), some (.int x10), some (.int x11), some (.int x12), some (.int x13), some (.int x14), some (.int x15), some (.int x16), some (.int x17), some (.int x18), some (.int s0), none]) (And.intro rfl (And.intro rfl (And.intro rfl (And.intro rfl (And.intro rfl (And.intro rfl (And.intro rfl (And.intro rfl (And.intro rfl (And.intro rfl (And.intro rfl (And.intro rfl (And.intro rfl (And.intro rfl (And.intro rfl (And.intro rfl (And.intro rfl (And.intro rfl (And.intro rfl trivial))))))))))))))))))) (w_md_fair_J359 C p1 p2 p3 p4 p5 (x6) (x7) (x8) (x11) (x12) (x13) hrec hK (x9) (x10) (x14) (x15) (x16) (x17) (x18) (s0) ((-1 : Int32)) (x17) M)
  · refine x_bipush C dX12_fair_353 (v := (-2 : Int32)) (by decide) ?_
    refine x_goto C dX12_fair_355 (tgt := 359) (by decide) ?_
    exact x_wk (L' := [some (.ref ((wM b).2.2.2 + 0)), none, some (.int p2), some (.int p3), some (.int p4), some (.int p5), some (.int x6), some (.int x7), some (.int x8), some (.int x9), some (.int x10), some (.int x11), some (.int x12), some (.int x13), some (.int x14), some (.int x15), some (.int x16), some (.int x17), some (.int x18), some (.int s0), none]) (And.intro rfl (And.intro rfl (And.intro rfl (And.intro rfl (And.intro rfl (And.intro rfl (And.intro rfl (And.intro rfl (And.intro rfl (And.intro rfl (And.intro rfl (And.intro rfl (And.intro rfl (And.intro rfl (And.intro rfl (And.intro rfl (And.intro rfl (And.intro rfl (And.intro rfl trivial))))))))))))))))))) (w_md_fair_J359 C p1 p2 p3 p4 p5 (x6) (x7) (x8) (x11) (x12) (x13) hrec hK (x9) (x10) (x14) (x15) (x16) (x17) (x18) (s0) ((-2 : Int32)) (x17) M)
set_option maxHeartbeats 4000000 in
set_option maxRecDepth 20000 in
theorem w_md_fair_J339 {z : ZT} {l : Launch} {g : GG} {b : Nat} (C : Cx z l g (wM b) (rmd 133) cX12_fair 21 RX12 (some .int)) (p1 : Int32) (p2 : Int32) (p3 : Int32) (p4 : Int32) (p5 : Int32) (x6 : Int32) (x7 : Int32) (x8 : Int32) (x11 : Int32) (x12 : Int32) (x13 : Int32) {rec : Int32 → Int32 → Int32 → Int32 → Int32 → Mem → Option (Int32 × Mem)} (hrec : ∀ (u9 : Int32) (u10 : Int32) (u14 : Int32) (u15 : Int32) (u16 : Int32) (M : Mem) , XG z g (wM b) 21 (ZQ z g (wM b) finM) 0 0 219 [some (.ref ((wM b).2.2.2 + 0)), none, some (.int p2), some (.int p3), some (.int p4), some (.int p5), some (.int x6), some (.int x7), some (.int x8), some (.int u9), some (.int u10), some (.int x11), some (.int x12), some (.int x13), some (.int u14), some (.int u15), some (.int u16), none, none, none, none] [] M (rec u9 u10 u14 u15 u16 M)) {K : Int32 → Int32 → Int32 → Int32 → Mem → Option (Int32 × Mem)} (hK : ∀ (u9 : Int32) (u10 : Int32) (u14 : Int32) (u15 : Int32) (M : Mem) , XG z g (wM b) 21 (ZQ z g (wM b) finM) 0 0 413 [some (.ref ((wM b).2.2.2 + 0)), none, some (.int p2), some (.int p3), some (.int p4), some (.int p5), some (.int x6), some (.int x7), some (.int x8), some (.int u9), some (.int u10), some (.int x11), some (.int x12), some (.int x13), some (.int u14), some (.int u15), none, none, none, none, none] [] M (K u9 u10 u14 u15 M)) (x9 : Int32) (x10 : Int32) (x14 : Int32) (x15 : Int32) (x16 : Int32) (x17 : Int32) (x18 : Int32) (M : Mem) : XG z g (wM b) 21 (ZQ z g (wM b) finM) 0 0 339 [some (.ref ((wM b).2.2.2 + 0)), none, some (.int p2), some (.int p3), some (.int p4), some (.int p5), some (.int x6), some (.int x7), some (.int x8), some (.int x9), some (.int x10), some (.int x11), some (.int x12), some (.int x13), some (.int x14), some (.int x15), some (.int x16), some (.int x17), some (.int x18), none, none] [] M (md_fair_J339 p1 p2 p3 p4 p5 rec K x6 x7 x8 x9 x10 x11 x12 x13 x14 x15 x16 x17 x18 M) := by
  rw [md_fair_J339]
  refine x_iconst C dX12_fair_339 (v := (0 : Int32)) (by decide) ?_
  exact x_wk (L' := [some (.ref ((wM b).2.2.2 + 0)), none, some (.int p2), some (.int p3), some (.int p4), some (.int p5), some (.int x6), some (.int x7), some (.int x8), some (.int x9), some (.int x10), some (.int x11), some (.int x12), some (.int x13), some (.int x14), some (.int x15), some (.int x16), some (.int x17), some (.int x18), none, none]) (And.intro rfl (And.intro rfl (And.intro rfl (And.intro rfl (And.intro rfl (And.intro rfl (And.intro rfl (And.intro rfl (And.intro rfl (And.intro rfl (And.intro rfl (And.intro rfl (And.intro rfl (And.intro rfl (And.intro rfl (And.intro rfl (And.intro rfl (And.intro rfl trivial)))))))))))))))))) (w_md_fair_J340 C p1 p2 p3 p4 p5 (x6) (x7) (x8) (x11) (x12) (x13) hrec hK (x9) (x10) (x14) (x15) (x16) (x17) (x18) ((0 : Int32)) M)
set_option maxHeartbeats 4000000 in
set_option maxRecDepth 20000 in
theorem w_md_fair_J291 {z : ZT} {l : Launch} {g : GG} {b : Nat} (C : Cx z l g (wM b) (rmd 133) cX12_fair 21 RX12 (some .int)) (p1 : Int32) (p2 : Int32) (p3 : Int32) (p4 : Int32) (p5 : Int32) (x6 : Int32) (x7 : Int32) (x8 : Int32) (x11 : Int32) (x12 : Int32) (x13 : Int32) {rec : Int32 → Int32 → Int32 → Int32 → Int32 → Mem → Option (Int32 × Mem)} (hrec : ∀ (u9 : Int32) (u10 : Int32) (u14 : Int32) (u15 : Int32) (u16 : Int32) (M : Mem) , XG z g (wM b) 21 (ZQ z g (wM b) finM) 0 0 219 [some (.ref ((wM b).2.2.2 + 0)), none, some (.int p2), some (.int p3), some (.int p4), some (.int p5), some (.int x6), some (.int x7), some (.int x8), some (.int u9), some (.int u10), some (.int x11), some (.int x12), some (.int x13), some (.int u14), some (.int u15), some (.int u16), none, none, none, none] [] M (rec u9 u10 u14 u15 u16 M)) {K : Int32 → Int32 → Int32 → Int32 → Mem → Option (Int32 × Mem)} (hK : ∀ (u9 : Int32) (u10 : Int32) (u14 : Int32) (u15 : Int32) (M : Mem) , XG z g (wM b) 21 (ZQ z g (wM b) finM) 0 0 413 [some (.ref ((wM b).2.2.2 + 0)), none, some (.int p2), some (.int p3), some (.int p4), some (.int p5), some (.int x6), some (.int x7), some (.int x8), some (.int u9), some (.int u10), some (.int x11), some (.int x12), some (.int x13), some (.int u14), some (.int u15), none, none, none, none, none] [] M (K u9 u10 u14 u15 M)) (x9 : Int32) (x10 : Int32) (x14 : Int32) (x15 : Int32) (x17 : Int32) (s0 : Int32) (M : Mem) : XG z g (wM b) 21 (ZQ z g (wM b) finM) 0 0 291 [some (.ref ((wM b).2.2.2 + 0)), none, some (.int p2), some (.int p3), some (.int p4), some (.int p5), some (.int x6), some (.int x7), some (.int x8), some (.int x9), some (.int x10), some (.int x11), some (.int x12), some (.int x13), some (.int x14), some (.int x15), none, some (.int x17), none, none, none] [.int s0] M (md_fair_J291 p1 p2 p3 p4 p5 rec K x6 x7 x8 x9 x10 x11 x12 x13 x14 x15 x17 s0 M) := by
  rw [md_fair_J291]
  refine x_istore C dX12_fair_291 (L' := [some (.ref ((wM b).2.2.2 + 0)), none, some (.int p2), some (.int p3), some (.int p4), some (.int p5), some (.int x6), some (.int x7), some (.int x8), some (.int x9), some (.int x10), some (.int x11), some (.int x12), some (.int x13), some (.int x14), some (.int x15), some (.int s0), some (.int x17), none, none, none]) (ltb rfl) rfl ?_
  refine x_iload C dX12_fair_293 (x := s0) rfl ?_
  refine x_ifne C dX12_fair_295 (tgt := 301) (by decide) (fun _h => ?_) (fun _h => ?_)
  · refine x_iload C dX12_fair_301 (x := x14) rfl ?_
    refine x_aloadn C dX12_fair_303 rfl ?_
    refine x_getR C fl_X12_50 cl_11 (13) nM0 kM0 fM0_24 dX12_fair_304 ?_
    refine x_iload C dX12_fair_307 (x := x17) rfl ?_
    refine x_iald C nM13 kM13 dX12_fair_309 ?_
    refine x_iadd C dX12_fair_310 ?_
    refine x_istore C dX12_fair_311 (L' := [some (.ref ((wM b).2.2.2 + 0)), none, some (.int p2), some (.int p3), some (.int p4), some (.int p5), some (.int x6), some (.int x7), some (.int x8), some (.int x9), some (.int x10), some (.int x11), some (.int x12), some (.int x13), some (.int x14), some (.int x15), some (.int s0), some (.int x17), some (.int (x14 + (M 13 x17.toNatClampNeg))), none, none]) (ltb rfl) rfl ?_
    refine x_iload C dX12_fair_313 (x := (x14 + (M 13 x17.toNatClampNeg))) rfl ?_
    refine x_aloadn C dX12_fair_315 rfl ?_
    refine x_getR C fl_X12_7 cl_11 (1) nM0 kM0 fM0_1 dX12_fair_316 ?_
    refine x_iconst C dX12_fair_319 (v := (5 : Int32)) (by decide) ?_
    refine x_ialdj C nM1 kM1 (j := 5) (by decide) (by decide) dX12_fair_320 ?_
    refine x_icmpgt C dX12_fair_321 (tgt := 339) (by decide) (fun _h => ?_) (fun _h => ?_)
    · exact x_wk (L' := [some (.ref ((wM b).2.2.2 + 0)), none, some (.int p2), some (.int p3), some (.int p4), some (.int p5), some (.int x6), some (.int x7), some (.int x8), some (.int x9), some (.int x10), some (.int x11), some (.int x12), some (.int x13), some (.int x14), some (.int x15), some (.int s0), some (.int x17), some (.int (x14 + (M 13 x17.toNatClampNeg))), none, none]) (And.intro rfl (And.intro rfl (And.intro rfl (And.intro rfl (And.intro rfl (And.intro rfl (And.intro rfl (And.intro rfl (And.intro rfl (And.intro rfl (And.intro rfl (And.intro rfl (And.intro rfl (And.intro rfl (And.intro rfl (And.intro rfl (And.intro rfl (And.intro rfl trivial)))))))))))))))))) (w_md_fair_J339 C p1 p2 p3 p4 p5 (x6) (x7) (x8) (x11) (x12) (x13) hrec hK (x9) (x10) (x14) (x15) (s0) (x17) ((x14 + (M 13 x17.toNatClampNeg)))  M)
    · refine x_aloadn C dX12_fair_324 rfl ?_
      refine x_iload C dX12_fair_325 (x := (x14 + (M 13 x17.toNatClampNeg))) rfl ?_
      refine x_Vi (st := []) C (c_md_needOf  ((x14 + (M 13 x17.toNatClampNeg))) M) lk_X12_214 nM0 kM0 ⟨_, _, rfl⟩ rfl rfl (Nat.le_of_ble_eq_true rfl) (rmok_d (by decide) (by decide)) ⟨Nat.zero_le _, Nat.zero_le _⟩ dX12_fair_327 (fun v15 => ?_)
      refine x_iload C dX12_fair_330 (x := p4) rfl ?_
      refine x_icmpgt C dX12_fair_332 (tgt := 339) (by decide) (fun _h => ?_) (fun _h => ?_)
      · exact x_wk (L' := [some (.ref ((wM b).2.2.2 + 0)), none, some (.int p2), some (.int p3), some (.int p4), some (.int p5), some (.int x6), some (.int x7), some (.int x8), some (.int x9), some (.int x10), some (.int x11), some (.int x12), some (.int x13), some (.int x14), some (.int x15), some (.int s0), some (.int x17), some (.int (x14 + (M 13 x17.toNatClampNeg))), none, none]) (And.intro rfl (And.intro rfl (And.intro rfl (And.intro rfl (And.intro rfl (And.intro rfl (And.intro rfl (And.intro rfl (And.intro rfl (And.intro rfl (And.intro rfl (And.intro rfl (And.intro rfl (And.intro rfl (And.intro rfl (And.intro rfl (And.intro rfl (And.intro rfl trivial)))))))))))))))))) (w_md_fair_J339 C p1 p2 p3 p4 p5 (x6) (x7) (x8) (x11) (x12) (x13) hrec hK (x9) (x10) (x14) (x15) (s0) (x17) ((x14 + (M 13 x17.toNatClampNeg)))  M)
      · refine x_iconst C dX12_fair_335 (v := (1 : Int32)) (by decide) ?_
        refine x_goto C dX12_fair_336 (tgt := 340) (by decide) ?_
        exact x_wk (L' := [some (.ref ((wM b).2.2.2 + 0)), none, some (.int p2), some (.int p3), some (.int p4), some (.int p5), some (.int x6), some (.int x7), some (.int x8), some (.int x9), some (.int x10), some (.int x11), some (.int x12), some (.int x13), some (.int x14), some (.int x15), some (.int s0), some (.int x17), some (.int (x14 + (M 13 x17.toNatClampNeg))), none, none]) (And.intro rfl (And.intro rfl (And.intro rfl (And.intro rfl (And.intro rfl (And.intro rfl (And.intro rfl (And.intro rfl (And.intro rfl (And.intro rfl (And.intro rfl (And.intro rfl (And.intro rfl (And.intro rfl (And.intro rfl (And.intro rfl (And.intro rfl (And.intro rfl trivial)))))))))))))))))) (w_md_fair_J340 C p1 p2 p3 p4 p5 (x6) (x7) (x8) (x11) (x12) (x13) hrec hK (x9) (x10) (x14) (x15) (s0) (x17) ((x14 + (M 13 x17.toNatClampNeg))) ((1 : Int32)) M)
  · refine x_goto C dX12_fair_298 (tgt := 219) (by decide) ?_
    exact x_wk (L' := [some (.ref ((wM b).2.2.2 + 0)), none, some (.int p2), some (.int p3), some (.int p4), some (.int p5), some (.int x6), some (.int x7), some (.int x8), some (.int x9), some (.int x10), some (.int x11), some (.int x12), some (.int x13), some (.int x14), some (.int x15), some (.int s0), none, none, none, none]) (And.intro rfl (And.intro rfl (And.intro rfl (And.intro rfl (And.intro rfl (And.intro rfl (And.intro rfl (And.intro rfl (And.intro rfl (And.intro rfl (And.intro rfl (And.intro rfl (And.intro rfl (And.intro rfl (And.intro rfl (And.intro rfl trivial)))))))))))))))) (hrec (x9) (x10) (x14) (x15) (s0) (M))
set_option maxHeartbeats 4000000 in
set_option maxRecDepth 20000 in
theorem w_md_fair_L219 {z : ZT} {l : Launch} {g : GG} {b : Nat} (C : Cx z l g (wM b) (rmd 133) cX12_fair 21 RX12 (some .int)) (p1 : Int32) (p2 : Int32) (p3 : Int32) (p4 : Int32) (p5 : Int32) (y6 : Int32) (y7 : Int32) (y8 : Int32) (y11 : Int32) (y12 : Int32) (y13 : Int32) {K : Int32 → Int32 → Int32 → Int32 → Mem → Option (Int32 × Mem)} (hK : ∀ (x9 : Int32) (x10 : Int32) (x14 : Int32) (x15 : Int32) (M : Mem) , XG z g (wM b) 21 (ZQ z g (wM b) finM) 0 0 413 [some (.ref ((wM b).2.2.2 + 0)), none, some (.int p2), some (.int p3), some (.int p4), some (.int p5), some (.int y6), some (.int y7), some (.int y8), some (.int x9), some (.int x10), some (.int y11), some (.int y12), some (.int y13), some (.int x14), some (.int x15), none, none, none, none, none] [] M (K x9 x10 x14 x15 M)) : ∀ (fu : Nat) (x9 : Int32) (x10 : Int32) (x14 : Int32) (x15 : Int32) (x16 : Int32) (M : Mem), XG z g (wM b) 21 (ZQ z g (wM b) finM) 0 0 219 [some (.ref ((wM b).2.2.2 + 0)), none, some (.int p2), some (.int p3), some (.int p4), some (.int p5), some (.int y6), some (.int y7), some (.int y8), some (.int x9), some (.int x10), some (.int y11), some (.int y12), some (.int y13), some (.int x14), some (.int x15), some (.int x16), none, none, none, none] [] M (md_fair_L219 p1 p2 p3 p4 p5 y6 y7 y8 y11 y12 y13 K fu x9 x10 x14 x15 x16 M) := by
  intro fu
  induction fu with
  | zero => intro x9 x10 x14 x15 x16 M; exact x_none
  | succ fu ih =>
    intro x9 x10 x14 x15 x16 M
    rw [md_fair_L219]
    refine x_iload C dX12_fair_219 (x := x16) rfl ?_
    refine x_ifeq C dX12_fair_221 (tgt := 413) (by decide) (fun _h => ?_) (fun _h => ?_)
    · exact x_wk (L' := [some (.ref ((wM b).2.2.2 + 0)), none, some (.int p2), some (.int p3), some (.int p4), some (.int p5), some (.int y6), some (.int y7), some (.int y8), some (.int x9), some (.int x10), some (.int y11), some (.int y12), some (.int y13), some (.int x14), some (.int x15), none, none, none, none, none]) (And.intro rfl (And.intro rfl (And.intro rfl (And.intro rfl (And.intro rfl (And.intro rfl (And.intro rfl (And.intro rfl (And.intro rfl (And.intro rfl (And.intro rfl (And.intro rfl (And.intro rfl (And.intro rfl (And.intro rfl trivial))))))))))))))) (hK (x9) (x10) (x14) (x15) (M))
    · refine x_iconst C dX12_fair_224 (v := (-1 : Int32)) (by decide) ?_
      refine x_istore C dX12_fair_225 (L' := [some (.ref ((wM b).2.2.2 + 0)), none, some (.int p2), some (.int p3), some (.int p4), some (.int p5), some (.int y6), some (.int y7), some (.int y8), some (.int x9), some (.int x10), some (.int y11), some (.int y12), some (.int y13), some (.int x14), some (.int x15), some (.int x16), some (.int (-1 : Int32)), none, none, none]) (ltb rfl) rfl ?_
      refine x_iconst C dX12_fair_227 (v := (0 : Int32)) (by decide) ?_
      refine x_istore C dX12_fair_228 (L' := [some (.ref ((wM b).2.2.2 + 0)), none, some (.int p2), some (.int p3), some (.int p4), some (.int p5), some (.int y6), some (.int y7), some (.int y8), some (.int x9), some (.int x10), some (.int y11), some (.int y12), some (.int y13), some (.int x14), some (.int x15), some (.int x16), some (.int (-1 : Int32)), some (.int (0 : Int32)), none, none]) (ltb rfl) rfl ?_
      refine x_wk (L' := [some (.ref ((wM b).2.2.2 + 0)), none, some (.int p2), some (.int p3), some (.int p4), some (.int p5), some (.int y6), some (.int y7), some (.int y8), some (.int x9), some (.int x10), some (.int y11), some (.int y12), some (.int y13), some (.int x14), some (.int x15), none, some (.int (-1 : Int32)), some (.int (0 : Int32)), none, none]) (And.intro rfl (And.intro rfl (And.intro rfl (And.intro rfl (And.intro rfl (And.intro rfl (And.intro rfl (And.intro rfl (And.intro rfl (And.intro rfl (And.intro rfl (And.intro rfl (And.intro rfl (And.intro rfl (And.intro rfl (And.intro rfl (And.intro rfl trivial))))))))))))))))) (w_md_fair_L230 C p1 p2 p3 p4 p5 (y6) (y7) (y8) (x9) (x10) (y11) (y12) (y13) (x14) (x15) M (fun v17_10 => ?_) FU ((-1 : Int32)) ((0 : Int32)) )
      refine x_iload C dX12_fair_280 (x := v17_10) rfl ?_
      refine x_iconst C dX12_fair_282 (v := (-1 : Int32)) (by decide) ?_
      refine x_icmpeq C dX12_fair_283 (tgt := 290) (by decide) (fun _h => ?_) (fun _h => ?_)
      · refine x_iconst C dX12_fair_290 (v := (0 : Int32)) (by decide) ?_
        exact x_wk (L' := [some (.ref ((wM b).2.2.2 + 0)), none, some (.int p2), some (.int p3), some (.int p4), some (.int p5), some (.int y6), some (.int y7), some (.int y8), some (.int x9), some (.int x10), some (.int y11), some (.int y12), some (.int y13), some (.int x14), some (.int x15), none, some (.int v17_10), none, none, none]) (And.intro rfl (And.intro rfl (And.intro rfl (And.intro rfl (And.intro rfl (And.intro rfl (And.intro rfl (And.intro rfl (And.intro rfl (And.intro rfl (And.intro rfl (And.intro rfl (And.intro rfl (And.intro rfl (And.intro rfl (And.intro rfl trivial)))))))))))))))) (w_md_fair_J291 C p1 p2 p3 p4 p5 (y6) (y7) (y8) (y11) (y12) (y13) ih hK (x9) (x10) (x14) (x15) (v17_10) ((0 : Int32)) M)
      · refine x_iconst C dX12_fair_286 (v := (1 : Int32)) (by decide) ?_
        refine x_goto C dX12_fair_287 (tgt := 291) (by decide) ?_
        exact x_wk (L' := [some (.ref ((wM b).2.2.2 + 0)), none, some (.int p2), some (.int p3), some (.int p4), some (.int p5), some (.int y6), some (.int y7), some (.int y8), some (.int x9), some (.int x10), some (.int y11), some (.int y12), some (.int y13), some (.int x14), some (.int x15), none, some (.int v17_10), none, none, none]) (And.intro rfl (And.intro rfl (And.intro rfl (And.intro rfl (And.intro rfl (And.intro rfl (And.intro rfl (And.intro rfl (And.intro rfl (And.intro rfl (And.intro rfl (And.intro rfl (And.intro rfl (And.intro rfl (And.intro rfl (And.intro rfl trivial)))))))))))))))) (w_md_fair_J291 C p1 p2 p3 p4 p5 (y6) (y7) (y8) (y11) (y12) (y13) ih hK (x9) (x10) (x14) (x15) (v17_10) ((1 : Int32)) M)
set_option maxHeartbeats 4000000 in
set_option maxRecDepth 20000 in
theorem w_md_fair_L472 {z : ZT} {l : Launch} {g : GG} {b : Nat} (C : Cx z l g (wM b) (rmd 133) cX12_fair 21 RX12 (some .int)) (p1 : Int32) (p2 : Int32) (p3 : Int32) (p4 : Int32) (p5 : Int32) (y6 : Int32) (y7 : Int32) (y8 : Int32) (y9 : Int32) (y10 : Int32) (y11 : Int32) (y12 : Int32) (y13 : Int32) {K : Int32 → Mem → Option (Int32 × Mem)} (hK : ∀ (x17 : Int32) (M : Mem) , XG z g (wM b) 21 (ZQ z g (wM b) finM) 0 0 531 [some (.ref ((wM b).2.2.2 + 0)), none, some (.int p2), some (.int p3), some (.int p4), some (.int p5), none, some (.int y7), some (.int y8), some (.int y9), some (.int y10), some (.int y11), some (.int y12), some (.int y13), none, none, none, some (.int x17), none, none, none] [] M (K x17 M)) : ∀ (fu : Nat) (x17 : Int32) (x18 : Int32) (M : Mem), XG z g (wM b) 21 (ZQ z g (wM b) finM) 0 0 472 [some (.ref ((wM b).2.2.2 + 0)), none, some (.int p2), some (.int p3), some (.int p4), some (.int p5), some (.int y6), some (.int y7), some (.int y8), some (.int y9), some (.int y10), some (.int y11), some (.int y12), some (.int y13), none, none, none, some (.int x17), some (.int x18), none, none] [] M (md_fair_L472 p1 p2 p3 p4 p5 y6 y7 y8 y9 y10 y11 y12 y13 K fu x17 x18 M) := by
  intro fu
  induction fu with
  | zero => intro x17 x18 M; exact x_none
  | succ fu ih =>
    intro x17 x18 M
    rw [md_fair_L472]
    refine x_iload C dX12_fair_472 (x := x18) rfl ?_
    refine x_iload C dX12_fair_474 (x := y6) rfl ?_
    refine x_icmpge C dX12_fair_476 (tgt := 531) (by decide) (fun _h => ?_) (fun _h => ?_)
    · exact x_wk (L' := [some (.ref ((wM b).2.2.2 + 0)), none, some (.int p2), some (.int p3), some (.int p4), some (.int p5), none, some (.int y7), some (.int y8), some (.int y9), some (.int y10), some (.int y11), some (.int y12), some (.int y13), none, none, none, some (.int x17), none, none, none]) (And.intro rfl (And.intro rfl (And.intro rfl (And.intro rfl (And.intro rfl (And.intro rfl (And.intro rfl (And.intro rfl (And.intro rfl (And.intro rfl (And.intro rfl (And.intro rfl (And.intro rfl trivial))))))))))))) (hK (x17) (M))
    · refine x_aloadn C dX12_fair_479 rfl ?_
      refine x_getR C fl_X12_56 cl_11 (15) nM0 kM0 fM0_26 dX12_fair_480 ?_
      refine x_iload C dX12_fair_483 (x := x18) rfl ?_
      refine x_iald C nM15 kM15 dX12_fair_485 ?_
      refine x_bipush C dX12_fair_486 (v := (-2 : Int32)) (by decide) ?_
      refine x_icmpne C dX12_fair_488 (tgt := 494) (by decide) (fun _h => ?_) (fun _h => ?_)
      · refine x_aloadn C dX12_fair_494 rfl ?_
        refine x_getR C fl_X12_50 cl_11 (13) nM0 kM0 fM0_24 dX12_fair_495 ?_
        refine x_iload C dX12_fair_498 (x := x17) rfl ?_
        refine x_aloadn C dX12_fair_500 rfl ?_
        refine x_getR C fl_X12_50 cl_11 (13) nM0 kM0 fM0_24 dX12_fair_501 ?_
        refine x_iload C dX12_fair_504 (x := x18) rfl ?_
        refine x_iald C nM13 kM13 dX12_fair_506 ?_
        refine x_iast C nM13 kM13 dX12_fair_507 ?_
        refine x_ltM (fun M22 => ?_)
        refine x_aloadn C dX12_fair_508 rfl ?_
        refine x_getR C fl_X12_53 cl_11 (14) nM0 kM0 fM0_25 dX12_fair_509 ?_
        refine x_iload C dX12_fair_512 (x := x17) rfl ?_
        refine x_aloadn C dX12_fair_514 rfl ?_
        refine x_getR C fl_X12_53 cl_11 (14) nM0 kM0 fM0_25 dX12_fair_515 ?_
        refine x_iload C dX12_fair_518 (x := x18) rfl ?_
        refine x_iald C nM14 kM14 dX12_fair_520 ?_
        refine x_iast C nM14 kM14 dX12_fair_521 ?_
        refine x_ltM (fun M23 => ?_)
        refine x_iinc C dX12_fair_522 (v := (x17 + (1 : Int32))) rfl rfl (L' := [some (.ref ((wM b).2.2.2 + 0)), none, some (.int p2), some (.int p3), some (.int p4), some (.int p5), some (.int y6), some (.int y7), some (.int y8), some (.int y9), some (.int y10), some (.int y11), some (.int y12), some (.int y13), none, none, none, some (.int (x17 + (1 : Int32))), some (.int x18), none, none]) rfl ?_
        refine x_iinc C dX12_fair_525 (v := (x18 + (1 : Int32))) rfl rfl (L' := [some (.ref ((wM b).2.2.2 + 0)), none, some (.int p2), some (.int p3), some (.int p4), some (.int p5), some (.int y6), some (.int y7), some (.int y8), some (.int y9), some (.int y10), some (.int y11), some (.int y12), some (.int y13), none, none, none, some (.int (x17 + (1 : Int32))), some (.int (x18 + (1 : Int32))), none, none]) rfl ?_
        refine x_goto C dX12_fair_528 (tgt := 472) (by decide) ?_
        exact x_wk (L' := [some (.ref ((wM b).2.2.2 + 0)), none, some (.int p2), some (.int p3), some (.int p4), some (.int p5), some (.int y6), some (.int y7), some (.int y8), some (.int y9), some (.int y10), some (.int y11), some (.int y12), some (.int y13), none, none, none, some (.int (x17 + (1 : Int32))), some (.int (x18 + (1 : Int32))), none, none]) (And.intro rfl (And.intro rfl (And.intro rfl (And.intro rfl (And.intro rfl (And.intro rfl (And.intro rfl (And.intro rfl (And.intro rfl (And.intro rfl (And.intro rfl (And.intro rfl (And.intro rfl (And.intro rfl (And.intro rfl trivial))))))))))))))) (ih ((x17 + (1 : Int32))) ((x18 + (1 : Int32))) (M23))
      · refine x_goto C dX12_fair_491 (tgt := 525) (by decide) ?_
        refine x_iinc C dX12_fair_525 (v := (x18 + (1 : Int32))) rfl rfl (L' := [some (.ref ((wM b).2.2.2 + 0)), none, some (.int p2), some (.int p3), some (.int p4), some (.int p5), some (.int y6), some (.int y7), some (.int y8), some (.int y9), some (.int y10), some (.int y11), some (.int y12), some (.int y13), none, none, none, some (.int x17), some (.int (x18 + (1 : Int32))), none, none]) rfl ?_
        refine x_goto C dX12_fair_528 (tgt := 472) (by decide) ?_
        exact x_wk (L' := [some (.ref ((wM b).2.2.2 + 0)), none, some (.int p2), some (.int p3), some (.int p4), some (.int p5), some (.int y6), some (.int y7), some (.int y8), some (.int y9), some (.int y10), some (.int y11), some (.int y12), some (.int y13), none, none, none, some (.int x17), some (.int (x18 + (1 : Int32))), none, none]) (And.intro rfl (And.intro rfl (And.intro rfl (And.intro rfl (And.intro rfl (And.intro rfl (And.intro rfl (And.intro rfl (And.intro rfl (And.intro rfl (And.intro rfl (And.intro rfl (And.intro rfl (And.intro rfl (And.intro rfl trivial))))))))))))))) (ih (x17) ((x18 + (1 : Int32))) (M))
set_option maxHeartbeats 4000000 in
set_option maxRecDepth 20000 in
theorem w_md_fair_J156 {z : ZT} {l : Launch} {g : GG} {b : Nat} (C : Cx z l g (wM b) (rmd 133) cX12_fair 21 RX12 (some .int)) (p1 : Int32) (p2 : Int32) (p3 : Int32) (p4 : Int32) (p5 : Int32)  {rec : Int32 → Int32 → Int32 → Int32 → Int32 → Int32 → Int32 → Int32 → Mem → Option (Int32 × Mem)} (hrec : ∀ (u6 : Int32) (u7 : Int32) (u8 : Int32) (u9 : Int32) (u10 : Int32) (u11 : Int32) (u12 : Int32) (u13 : Int32) (M : Mem) , XG z g (wM b) 21 (ZQ z g (wM b) finM) 0 0 93 [some (.ref ((wM b).2.2.2 + 0)), none, some (.int p2), some (.int p3), some (.int p4), some (.int p5), some (.int u6), some (.int u7), some (.int u8), some (.int u9), some (.int u10), some (.int u11), some (.int u12), some (.int u13), none, none, none, none, none, none, none] [] M (rec u6 u7 u8 u9 u10 u11 u12 u13 M)) {K : Int32 → Int32 → Int32 → Int32 → Int32 → Int32 → Mem → Option (Int32 × Mem)} (hK : ∀ (u6 : Int32) (u7 : Int32) (u8 : Int32) (u9 : Int32) (u10 : Int32) (u11 : Int32) (M : Mem) , XG z g (wM b) 21 (ZQ z g (wM b) finM) 0 0 541 [none, none, none, none, none, some (.int p5), some (.int u6), some (.int u7), some (.int u8), some (.int u9), some (.int u10), some (.int u11), none, none, none, none, none, none, none, none, none] [] M (K u6 u7 u8 u9 u10 u11 M)) (x6 : Int32) (x7 : Int32) (x8 : Int32) (x9 : Int32) (x10 : Int32) (x11 : Int32) (x12 : Int32) (x13 : Int32) (M : Mem) : XG z g (wM b) 21 (ZQ z g (wM b) finM) 0 0 156 [some (.ref ((wM b).2.2.2 + 0)), none, some (.int p2), some (.int p3), some (.int p4), some (.int p5), some (.int x6), some (.int x7), some (.int x8), some (.int x9), some (.int x10), some (.int x11), some (.int x12), some (.int x13), none, none, none, none, none, none, none] [] M (md_fair_J156 p1 p2 p3 p4 p5 rec K x6 x7 x8 x9 x10 x11 x12 x13 M) := by
  rw [md_fair_J156]
  refine x_iload C dX12_fair_156 (x := x13) rfl ?_
  refine x_iload C dX12_fair_158 (x := x12) rfl ?_
  refine x_icmplt C dX12_fair_160 (tgt := 535) (by decide) (fun _h => ?_) (fun _h => ?_)
  · refine x_iinc C dX12_fair_535 (v := (x13 + (1 : Int32))) rfl rfl (L' := [some (.ref ((wM b).2.2.2 + 0)), none, some (.int p2), some (.int p3), some (.int p4), some (.int p5), some (.int x6), some (.int x7), some (.int x8), some (.int x9), some (.int x10), some (.int x11), some (.int x12), some (.int (x13 + (1 : Int32))), none, none, none, none, none, none, none]) rfl ?_
    refine x_goto C dX12_fair_538 (tgt := 93) (by decide) ?_
    exact x_wk (L' := [some (.ref ((wM b).2.2.2 + 0)), none, some (.int p2), some (.int p3), some (.int p4), some (.int p5), some (.int x6), some (.int x7), some (.int x8), some (.int x9), some (.int x10), some (.int x11), some (.int x12), some (.int (x13 + (1 : Int32))), none, none, none, none, none, none, none]) (And.intro rfl (And.intro rfl (And.intro rfl (And.intro rfl (And.intro rfl (And.intro rfl (And.intro rfl (And.intro rfl (And.intro rfl (And.intro rfl (And.intro rfl (And.intro rfl (And.intro rfl trivial))))))))))))) (hrec (x6) (x7) (x8) (x9) (x10) (x11) (x12) ((x13 + (1 : Int32))) (M))
  · refine x_iload C dX12_fair_163 (x := x6) rfl ?_
    refine x_ifne C dX12_fair_165 (tgt := 171) (by decide) (fun _h => ?_) (fun _h => ?_)
    · refine x_iconst C dX12_fair_171 (v := (0 : Int32)) (by decide) ?_
      refine x_istore C dX12_fair_172 (L' := [some (.ref ((wM b).2.2.2 + 0)), none, some (.int p2), some (.int p3), some (.int p4), some (.int p5), some (.int x6), some (.int x7), some (.int x8), some (.int x9), some (.int x10), some (.int x11), some (.int x12), some (.int x13), some (.int (0 : Int32)), none, none, none, none, none, none]) (ltb rfl) rfl ?_
      refine x_wk (L' := [some (.ref ((wM b).2.2.2 + 0)), none, some (.int p2), some (.int p3), some (.int p4), some (.int p5), some (.int x6), some (.int x7), some (.int x8), some (.int x9), some (.int x10), some (.int x11), some (.int x12), some (.int x13), some (.int (0 : Int32)), none, none, none, none, none, none]) (And.intro rfl (And.intro rfl (And.intro rfl (And.intro rfl (And.intro rfl (And.intro rfl (And.intro rfl (And.intro rfl (And.intro rfl (And.intro rfl (And.intro rfl (And.intro rfl (And.intro rfl (And.intro rfl trivial)))))))))))))) (w_md_fair_L174 C p1 p2 p3 p4 p5 (x6) (x7) (x8) (x9) (x10) (x11) (x12) (x13)  (fun M10 => ?_) FU ((0 : Int32)) M)
      refine x_aloadn C dX12_fair_204 rfl ?_
      refine x_getR C fl_X12_7 cl_11 (1) nM0 kM0 fM0_1 dX12_fair_205 ?_
      refine x_bipush C dX12_fair_208 (v := (6 : Int32)) (by decide) ?_
      refine x_ialdj C nM1 kM1 (j := 6) (by decide) (by decide) dX12_fair_210 ?_
      refine x_istore C dX12_fair_211 (L' := [some (.ref ((wM b).2.2.2 + 0)), none, some (.int p2), some (.int p3), some (.int p4), some (.int p5), some (.int x6), some (.int x7), some (.int x8), some (.int x9), some (.int x10), some (.int x11), some (.int x12), some (.int x13), some (.int (M10 1 6)), none, none, none, none, none, none]) (ltb rfl) rfl ?_
      refine x_iconst C dX12_fair_213 (v := (0 : Int32)) (by decide) ?_
      refine x_istore C dX12_fair_214 (L' := [some (.ref ((wM b).2.2.2 + 0)), none, some (.int p2), some (.int p3), some (.int p4), some (.int p5), some (.int x6), some (.int x7), some (.int x8), some (.int x9), some (.int x10), some (.int x11), some (.int x12), some (.int x13), some (.int (M10 1 6)), some (.int (0 : Int32)), none, none, none, none, none]) (ltb rfl) rfl ?_
      refine x_iconst C dX12_fair_216 (v := (1 : Int32)) (by decide) ?_
      refine x_istore C dX12_fair_217 (L' := [some (.ref ((wM b).2.2.2 + 0)), none, some (.int p2), some (.int p3), some (.int p4), some (.int p5), some (.int x6), some (.int x7), some (.int x8), some (.int x9), some (.int x10), some (.int x11), some (.int x12), some (.int x13), some (.int (M10 1 6)), some (.int (0 : Int32)), some (.int (1 : Int32)), none, none, none, none]) (ltb rfl) rfl ?_
      refine x_wk (L' := [some (.ref ((wM b).2.2.2 + 0)), none, some (.int p2), some (.int p3), some (.int p4), some (.int p5), some (.int x6), some (.int x7), some (.int x8), some (.int x9), some (.int x10), some (.int x11), some (.int x12), some (.int x13), some (.int (M10 1 6)), some (.int (0 : Int32)), some (.int (1 : Int32)), none, none, none, none]) (And.intro rfl (And.intro rfl (And.intro rfl (And.intro rfl (And.intro rfl (And.intro rfl (And.intro rfl (And.intro rfl (And.intro rfl (And.intro rfl (And.intro rfl (And.intro rfl (And.intro rfl (And.intro rfl (And.intro rfl (And.intro rfl trivial)))))))))))))))) (w_md_fair_L219 C p1 p2 p3 p4 p5 (x6) (x7) (x8) (x11) (x12) (x13)  (fun v9_15 v10_15 v14_15 v15_15 M17 => ?_) FU (x9) (x10) ((M10 1 6)) ((0 : Int32)) ((1 : Int32)) M10)
      refine x_iload C dX12_fair_413 (x := v15_15) rfl ?_
      refine x_ifne C dX12_fair_415 (tgt := 421) (by decide) (fun _h => ?_) (fun _h => ?_)
      · refine x_iload C dX12_fair_421 (x := x7) rfl ?_
        refine x_iload C dX12_fair_423 (x := v15_15) rfl ?_
        refine x_iadd C dX12_fair_425 ?_
        refine x_istore C dX12_fair_426 (L' := [some (.ref ((wM b).2.2.2 + 0)), none, some (.int p2), some (.int p3), some (.int p4), some (.int p5), some (.int x6), some (.int (x7 + v15_15)), some (.int x8), some (.int v9_15), some (.int v10_15), some (.int x11), some (.int x12), some (.int x13), some (.int v14_15), some (.int v15_15), none, none, none, none, none]) (ltb rfl) rfl ?_
        refine x_iinc C dX12_fair_428 (v := (x11 + (1 : Int32))) rfl rfl (L' := [some (.ref ((wM b).2.2.2 + 0)), none, some (.int p2), some (.int p3), some (.int p4), some (.int p5), some (.int x6), some (.int (x7 + v15_15)), some (.int x8), some (.int v9_15), some (.int v10_15), some (.int (x11 + (1 : Int32))), some (.int x12), some (.int x13), some (.int v14_15), some (.int v15_15), none, none, none, none, none]) rfl ?_
        refine x_iload C dX12_fair_431 (x := x13) rfl ?_
        refine x_aloadn C dX12_fair_433 rfl ?_
        refine x_aloadn C dX12_fair_434 rfl ?_
        refine x_iload C dX12_fair_435 (x := v14_15) rfl ?_
        refine x_Vi (st := [.ref ((wM b).2.2.2 + 0), .int x13]) C (c_md_needOf  (v14_15) M17) lk_X12_214 nM0 kM0 ⟨_, _, rfl⟩ rfl rfl (Nat.le_of_ble_eq_true rfl) (rmok_d (by decide) (by decide)) ⟨Nat.zero_le _, Nat.zero_le _⟩ dX12_fair_437 (fun v18 => ?_)
        refine x_iload C dX12_fair_440 (x := p4) rfl ?_
        refine x_Vi (st := [.int x13]) C (c_md_minutesBy  (v18) (p4) M17) lk_X12_223 nM0 kM0 ⟨_, _, rfl⟩ rfl rfl (Nat.le_of_ble_eq_true rfl) (rmok_d (by decide) (by decide)) ⟨Nat.zero_le _, Nat.zero_le _⟩ dX12_fair_442 (fun v19 => ?_)
        refine x_iadd C dX12_fair_445 ?_
        refine x_aloadn C dX12_fair_446 rfl ?_
        refine x_aloadn C dX12_fair_447 rfl ?_
        refine x_aloadn C dX12_fair_448 rfl ?_
        refine x_getR C fl_X12_7 cl_11 (1) nM0 kM0 fM0_1 dX12_fair_449 ?_
        refine x_bipush C dX12_fair_452 (v := (6 : Int32)) (by decide) ?_
        refine x_ialdj C nM1 kM1 (j := 6) (by decide) (by decide) dX12_fair_454 ?_
        refine x_Vi (st := [.ref ((wM b).2.2.2 + 0), .int (x13 + v19)]) C (c_md_needOf  ((M17 1 6)) M17) lk_X12_214 nM0 kM0 ⟨_, _, rfl⟩ rfl rfl (Nat.le_of_ble_eq_true rfl) (rmok_d (by decide) (by decide)) ⟨Nat.zero_le _, Nat.zero_le _⟩ dX12_fair_455 (fun v20 => ?_)
        refine x_iload C dX12_fair_458 (x := p4) rfl ?_
        refine x_Vi (st := [.int (x13 + v19)]) C (c_md_minutesBy  (v20) (p4) M17) lk_X12_223 nM0 kM0 ⟨_, _, rfl⟩ rfl rfl (Nat.le_of_ble_eq_true rfl) (rmok_d (by decide) (by decide)) ⟨Nat.zero_le _, Nat.zero_le _⟩ dX12_fair_460 (fun v21 => ?_)
        refine x_iadd C dX12_fair_463 ?_
        refine x_istore C dX12_fair_464 (L' := [some (.ref ((wM b).2.2.2 + 0)), none, some (.int p2), some (.int p3), some (.int p4), some (.int p5), some (.int x6), some (.int (x7 + v15_15)), some (.int x8), some (.int v9_15), some (.int v10_15), some (.int (x11 + (1 : Int32))), some (.int ((x13 + v19) + v21)), some (.int x13), some (.int v14_15), some (.int v15_15), none, none, none, none, none]) (ltb rfl) rfl ?_
        refine x_iconst C dX12_fair_466 (v := (0 : Int32)) (by decide) ?_
        refine x_istore C dX12_fair_467 (L' := [some (.ref ((wM b).2.2.2 + 0)), none, some (.int p2), some (.int p3), some (.int p4), some (.int p5), some (.int x6), some (.int (x7 + v15_15)), some (.int x8), some (.int v9_15), some (.int v10_15), some (.int (x11 + (1 : Int32))), some (.int ((x13 + v19) + v21)), some (.int x13), some (.int v14_15), some (.int v15_15), none, some (.int (0 : Int32)), none, none, none]) (ltb rfl) rfl ?_
        refine x_iconst C dX12_fair_469 (v := (0 : Int32)) (by decide) ?_
        refine x_istore C dX12_fair_470 (L' := [some (.ref ((wM b).2.2.2 + 0)), none, some (.int p2), some (.int p3), some (.int p4), some (.int p5), some (.int x6), some (.int (x7 + v15_15)), some (.int x8), some (.int v9_15), some (.int v10_15), some (.int (x11 + (1 : Int32))), some (.int ((x13 + v19) + v21)), some (.int x13), some (.int v14_15), some (.int v15_15), none, some (.int (0 : Int32)), some (.int (0 : Int32)), none, none]) (ltb rfl) rfl ?_
        refine x_wk (L' := [some (.ref ((wM b).2.2.2 + 0)), none, some (.int p2), some (.int p3), some (.int p4), some (.int p5), some (.int x6), some (.int (x7 + v15_15)), some (.int x8), some (.int v9_15), some (.int v10_15), some (.int (x11 + (1 : Int32))), some (.int ((x13 + v19) + v21)), some (.int x13), none, none, none, some (.int (0 : Int32)), some (.int (0 : Int32)), none, none]) (And.intro rfl (And.intro rfl (And.intro rfl (And.intro rfl (And.intro rfl (And.intro rfl (And.intro rfl (And.intro rfl (And.intro rfl (And.intro rfl (And.intro rfl (And.intro rfl (And.intro rfl (And.intro rfl (And.intro rfl trivial))))))))))))))) (w_md_fair_L472 C p1 p2 p3 p4 p5 (x6) ((x7 + v15_15)) (x8) (v9_15) (v10_15) ((x11 + (1 : Int32))) (((x13 + v19) + v21)) (x13)  (fun v17_23 M25 => ?_) FU ((0 : Int32)) ((0 : Int32)) M17)
        refine x_iload C dX12_fair_531 (x := v17_23) rfl ?_
        refine x_istore C dX12_fair_533 (L' := [some (.ref ((wM b).2.2.2 + 0)), none, some (.int p2), some (.int p3), some (.int p4), some (.int p5), some (.int v17_23), some (.int (x7 + v15_15)), some (.int x8), some (.int v9_15), some (.int v10_15), some (.int (x11 + (1 : Int32))), some (.int ((x13 + v19) + v21)), some (.int x13), none, none, none, some (.int v17_23), none, none, none]) (ltb rfl) rfl ?_
        refine x_iinc C dX12_fair_535 (v := (x13 + (1 : Int32))) rfl rfl (L' := [some (.ref ((wM b).2.2.2 + 0)), none, some (.int p2), some (.int p3), some (.int p4), some (.int p5), some (.int v17_23), some (.int (x7 + v15_15)), some (.int x8), some (.int v9_15), some (.int v10_15), some (.int (x11 + (1 : Int32))), some (.int ((x13 + v19) + v21)), some (.int (x13 + (1 : Int32))), none, none, none, some (.int v17_23), none, none, none]) rfl ?_
        refine x_goto C dX12_fair_538 (tgt := 93) (by decide) ?_
        exact x_wk (L' := [some (.ref ((wM b).2.2.2 + 0)), none, some (.int p2), some (.int p3), some (.int p4), some (.int p5), some (.int v17_23), some (.int (x7 + v15_15)), some (.int x8), some (.int v9_15), some (.int v10_15), some (.int (x11 + (1 : Int32))), some (.int ((x13 + v19) + v21)), some (.int (x13 + (1 : Int32))), none, none, none, none, none, none, none]) (And.intro rfl (And.intro rfl (And.intro rfl (And.intro rfl (And.intro rfl (And.intro rfl (And.intro rfl (And.intro rfl (And.intro rfl (And.intro rfl (And.intro rfl (And.intro rfl (And.intro rfl trivial))))))))))))) (hrec (v17_23) ((x7 + v15_15)) (x8) (v9_15) (v10_15) ((x11 + (1 : Int32))) (((x13 + v19) + v21)) ((x13 + (1 : Int32))) (M25))
      · refine x_goto C dX12_fair_418 (tgt := 535) (by decide) ?_
        refine x_iinc C dX12_fair_535 (v := (x13 + (1 : Int32))) rfl rfl (L' := [some (.ref ((wM b).2.2.2 + 0)), none, some (.int p2), some (.int p3), some (.int p4), some (.int p5), some (.int x6), some (.int x7), some (.int x8), some (.int v9_15), some (.int v10_15), some (.int x11), some (.int x12), some (.int (x13 + (1 : Int32))), some (.int v14_15), some (.int v15_15), none, none, none, none, none]) rfl ?_
        refine x_goto C dX12_fair_538 (tgt := 93) (by decide) ?_
        exact x_wk (L' := [some (.ref ((wM b).2.2.2 + 0)), none, some (.int p2), some (.int p3), some (.int p4), some (.int p5), some (.int x6), some (.int x7), some (.int x8), some (.int v9_15), some (.int v10_15), some (.int x11), some (.int x12), some (.int (x13 + (1 : Int32))), none, none, none, none, none, none, none]) (And.intro rfl (And.intro rfl (And.intro rfl (And.intro rfl (And.intro rfl (And.intro rfl (And.intro rfl (And.intro rfl (And.intro rfl (And.intro rfl (And.intro rfl (And.intro rfl (And.intro rfl trivial))))))))))))) (hrec (x6) (x7) (x8) (v9_15) (v10_15) (x11) (x12) ((x13 + (1 : Int32))) (M17))
    · refine x_goto C dX12_fair_168 (tgt := 535) (by decide) ?_
      refine x_iinc C dX12_fair_535 (v := (x13 + (1 : Int32))) rfl rfl (L' := [some (.ref ((wM b).2.2.2 + 0)), none, some (.int p2), some (.int p3), some (.int p4), some (.int p5), some (.int x6), some (.int x7), some (.int x8), some (.int x9), some (.int x10), some (.int x11), some (.int x12), some (.int (x13 + (1 : Int32))), none, none, none, none, none, none, none]) rfl ?_
      refine x_goto C dX12_fair_538 (tgt := 93) (by decide) ?_
      exact x_wk (L' := [some (.ref ((wM b).2.2.2 + 0)), none, some (.int p2), some (.int p3), some (.int p4), some (.int p5), some (.int x6), some (.int x7), some (.int x8), some (.int x9), some (.int x10), some (.int x11), some (.int x12), some (.int (x13 + (1 : Int32))), none, none, none, none, none, none, none]) (And.intro rfl (And.intro rfl (And.intro rfl (And.intro rfl (And.intro rfl (And.intro rfl (And.intro rfl (And.intro rfl (And.intro rfl (And.intro rfl (And.intro rfl (And.intro rfl (And.intro rfl trivial))))))))))))) (hrec (x6) (x7) (x8) (x9) (x10) (x11) (x12) ((x13 + (1 : Int32))) (M))
set_option maxHeartbeats 4000000 in
set_option maxRecDepth 20000 in
theorem w_md_fair_L93 {z : ZT} {l : Launch} {g : GG} {b : Nat} (C : Cx z l g (wM b) (rmd 133) cX12_fair 21 RX12 (some .int)) (p1 : Int32) (p2 : Int32) (p3 : Int32) (p4 : Int32) (p5 : Int32) {K : Int32 → Int32 → Int32 → Int32 → Int32 → Int32 → Mem → Option (Int32 × Mem)} (hK : ∀ (x6 : Int32) (x7 : Int32) (x8 : Int32) (x9 : Int32) (x10 : Int32) (x11 : Int32) (M : Mem) , XG z g (wM b) 21 (ZQ z g (wM b) finM) 0 0 541 [none, none, none, none, none, some (.int p5), some (.int x6), some (.int x7), some (.int x8), some (.int x9), some (.int x10), some (.int x11), none, none, none, none, none, none, none, none, none] [] M (K x6 x7 x8 x9 x10 x11 M)) : ∀ (fu : Nat) (x6 : Int32) (x7 : Int32) (x8 : Int32) (x9 : Int32) (x10 : Int32) (x11 : Int32) (x12 : Int32) (x13 : Int32) (M : Mem), XG z g (wM b) 21 (ZQ z g (wM b) finM) 0 0 93 [some (.ref ((wM b).2.2.2 + 0)), none, some (.int p2), some (.int p3), some (.int p4), some (.int p5), some (.int x6), some (.int x7), some (.int x8), some (.int x9), some (.int x10), some (.int x11), some (.int x12), some (.int x13), none, none, none, none, none, none, none] [] M (md_fair_L93 p1 p2 p3 p4 p5 K fu x6 x7 x8 x9 x10 x11 x12 x13 M) := by
  intro fu
  induction fu with
  | zero => intro x6 x7 x8 x9 x10 x11 x12 x13 M; exact x_none
  | succ fu ih =>
    intro x6 x7 x8 x9 x10 x11 x12 x13 M
    rw [md_fair_L93]
    refine x_iload C dX12_fair_93 (x := x13) rfl ?_
    refine x_iloadn C dX12_fair_95 (x := p2) rfl ?_
    refine x_icmpge C dX12_fair_96 (tgt := 541) (by decide) (fun _h => ?_) (fun _h => ?_)
    · exact x_wk (L' := [none, none, none, none, none, some (.int p5), some (.int x6), some (.int x7), some (.int x8), some (.int x9), some (.int x10), some (.int x11), none, none, none, none, none, none, none, none, none]) (And.intro rfl (And.intro rfl (And.intro rfl (And.intro rfl (And.intro rfl (And.intro rfl (And.intro rfl trivial))))))) (hK (x6) (x7) (x8) (x9) (x10) (x11) (M))
    · refine x_aloadn C dX12_fair_99 rfl ?_
      refine x_bipush C dX12_fair_100 (v := (100 : Int32)) (by decide) ?_
      refine x_Vm (st := []) C (c_md_draw  ((100 : Int32)) M) lk_X12_291 nM0 kM0 ⟨_, _, rfl⟩ rfl rfl (Nat.le_of_ble_eq_true rfl) (rmok_d (by decide) (by decide)) ⟨Nat.zero_le _, Nat.zero_le _⟩ dX12_fair_102 (fun v5 M4 => ?_)
      refine x_iloadn C dX12_fair_105 (x := p3) rfl ?_
      refine x_icmpge C dX12_fair_106 (tgt := 156) (by decide) (fun _h => ?_) (fun _h => ?_)
      · exact x_wk (L' := [some (.ref ((wM b).2.2.2 + 0)), none, some (.int p2), some (.int p3), some (.int p4), some (.int p5), some (.int x6), some (.int x7), some (.int x8), some (.int x9), some (.int x10), some (.int x11), some (.int x12), some (.int x13), none, none, none, none, none, none, none]) (And.intro rfl (And.intro rfl (And.intro rfl (And.intro rfl (And.intro rfl (And.intro rfl (And.intro rfl (And.intro rfl (And.intro rfl (And.intro rfl (And.intro rfl (And.intro rfl (And.intro rfl trivial))))))))))))) (w_md_fair_J156 C p1 p2 p3 p4 p5  ih hK (x6) (x7) (x8) (x9) (x10) (x11) (x12) (x13)  M4)
      · refine x_bipush C dX12_fair_109 (v := (10 : Int32)) (by decide) ?_
        refine x_aloadn C dX12_fair_111 rfl ?_
        refine x_bipush C dX12_fair_112 (v := (9 : Int32)) (by decide) ?_
        refine x_Vm (st := [.int (10 : Int32)]) C (c_md_draw  ((9 : Int32)) M4) lk_X12_291 nM0 kM0 ⟨_, _, rfl⟩ rfl rfl (Nat.le_of_ble_eq_true rfl) (rmok_d (by decide) (by decide)) ⟨Nat.zero_le _, Nat.zero_le _⟩ dX12_fair_114 (fun v27 M26 => ?_)
        refine x_iconst C dX12_fair_117 (v := (1 : Int32)) (by decide) ?_
        refine x_iadd C dX12_fair_118 ?_
        refine x_imul C dX12_fair_119 ?_
        refine x_istore C dX12_fair_120 (L' := [some (.ref ((wM b).2.2.2 + 0)), none, some (.int p2), some (.int p3), some (.int p4), some (.int p5), some (.int x6), some (.int x7), some (.int x8), some (.int x9), some (.int x10), some (.int x11), some (.int x12), some (.int x13), some (.int ((10 : Int32) * (v27 + (1 : Int32)))), none, none, none, none, none, none]) (ltb rfl) rfl ?_
        refine x_iload C dX12_fair_122 (x := x6) rfl ?_
        refine x_bipush C dX12_fair_124 (v := (40 : Int32)) (by decide) ?_
        refine x_icmpne C dX12_fair_126 (tgt := 135) (by decide) (fun _h => ?_) (fun _h => ?_)
        · refine x_aloadn C dX12_fair_135 rfl ?_
          refine x_getR C fl_X12_50 cl_11 (13) nM0 kM0 fM0_24 dX12_fair_136 ?_
          refine x_iload C dX12_fair_139 (x := x6) rfl ?_
          refine x_iload C dX12_fair_141 (x := ((10 : Int32) * (v27 + (1 : Int32)))) rfl ?_
          refine x_iast C nM13 kM13 dX12_fair_143 ?_
          refine x_ltM (fun M28 => ?_)
          refine x_aloadn C dX12_fair_144 rfl ?_
          refine x_getR C fl_X12_53 cl_11 (14) nM0 kM0 fM0_25 dX12_fair_145 ?_
          refine x_iload C dX12_fair_148 (x := x6) rfl ?_
          refine x_iload C dX12_fair_150 (x := x13) rfl ?_
          refine x_iast C nM14 kM14 dX12_fair_152 ?_
          refine x_ltM (fun M29 => ?_)
          refine x_iinc C dX12_fair_153 (v := (x6 + (1 : Int32))) rfl rfl (L' := [some (.ref ((wM b).2.2.2 + 0)), none, some (.int p2), some (.int p3), some (.int p4), some (.int p5), some (.int (x6 + (1 : Int32))), some (.int x7), some (.int x8), some (.int x9), some (.int x10), some (.int x11), some (.int x12), some (.int x13), some (.int ((10 : Int32) * (v27 + (1 : Int32)))), none, none, none, none, none, none]) rfl ?_
          exact x_wk (L' := [some (.ref ((wM b).2.2.2 + 0)), none, some (.int p2), some (.int p3), some (.int p4), some (.int p5), some (.int (x6 + (1 : Int32))), some (.int x7), some (.int x8), some (.int x9), some (.int x10), some (.int x11), some (.int x12), some (.int x13), none, none, none, none, none, none, none]) (And.intro rfl (And.intro rfl (And.intro rfl (And.intro rfl (And.intro rfl (And.intro rfl (And.intro rfl (And.intro rfl (And.intro rfl (And.intro rfl (And.intro rfl (And.intro rfl (And.intro rfl trivial))))))))))))) (w_md_fair_J156 C p1 p2 p3 p4 p5  ih hK ((x6 + (1 : Int32))) (x7) (x8) (x9) (x10) (x11) (x12) (x13)  M29)
        · refine x_iinc C dX12_fair_129 (v := (x8 + (1 : Int32))) rfl rfl (L' := [some (.ref ((wM b).2.2.2 + 0)), none, some (.int p2), some (.int p3), some (.int p4), some (.int p5), some (.int x6), some (.int x7), some (.int (x8 + (1 : Int32))), some (.int x9), some (.int x10), some (.int x11), some (.int x12), some (.int x13), some (.int ((10 : Int32) * (v27 + (1 : Int32)))), none, none, none, none, none, none]) rfl ?_
          refine x_goto C dX12_fair_132 (tgt := 156) (by decide) ?_
          exact x_wk (L' := [some (.ref ((wM b).2.2.2 + 0)), none, some (.int p2), some (.int p3), some (.int p4), some (.int p5), some (.int x6), some (.int x7), some (.int (x8 + (1 : Int32))), some (.int x9), some (.int x10), some (.int x11), some (.int x12), some (.int x13), none, none, none, none, none, none, none]) (And.intro rfl (And.intro rfl (And.intro rfl (And.intro rfl (And.intro rfl (And.intro rfl (And.intro rfl (And.intro rfl (And.intro rfl (And.intro rfl (And.intro rfl (And.intro rfl (And.intro rfl trivial))))))))))))) (w_md_fair_J156 C p1 p2 p3 p4 p5  ih hK (x6) (x7) ((x8 + (1 : Int32))) (x9) (x10) (x11) (x12) (x13)  M26)
set_option maxHeartbeats 4000000 in
set_option maxRecDepth 20000 in
theorem w_md_fair_J52 {z : ZT} {l : Launch} {g : GG} {b : Nat} (C : Cx z l g (wM b) (rmd 133) cX12_fair 21 RX12 (some .int)) (p1 : Int32) (p2 : Int32) (p3 : Int32) (p4 : Int32) (p5 : Int32)  (s0 : Int32) (M : Mem) : XG z g (wM b) 21 (ZQ z g (wM b) finM) 0 0 52 [some (.ref ((wM b).2.2.2 + 0)), some (.int p1), some (.int p2), some (.int p3), some (.int p4), some (.int p5), none, none, none, none, none, none, none, none, none, none, none, none, none, none, none] [.int s0, .ref ((wM b).2.2.2 + 0)] M (md_fair_J52 p1 p2 p3 p4 p5 s0 M) := by
  rw [md_fair_J52]
  refine x_putI C fl_X12_59 cl_11 fint_11_0 nM0 kM0 fM0_0 dX12_fair_52 ?_
  refine x_ltM (fun M2 => ?_)
  refine x_aloadn C dX12_fair_55 rfl ?_
  refine x_getI C fl_X12_59 cl_11 nM0 kM0 fM0_0 dX12_fair_56 ?_
  refine x_ifle C dX12_fair_59 (tgt := 64) (by decide) (fun _h => ?_) (fun _h => ?_)
  · refine x_aloadn C dX12_fair_64 rfl ?_
    refine x_iloadn C dX12_fair_65 (x := p1) rfl ?_
    refine x_putI C fl_X12_288 cl_11 fint_11_27 nM0 kM0 fM0_27 dX12_fair_66 ?_
    refine x_ltM (fun M3 => ?_)
    refine x_iconst C dX12_fair_69 (v := (0 : Int32)) (by decide) ?_
    refine x_istore C dX12_fair_70 (L' := [some (.ref ((wM b).2.2.2 + 0)), some (.int p1), some (.int p2), some (.int p3), some (.int p4), some (.int p5), some (.int (0 : Int32)), none, none, none, none, none, none, none, none, none, none, none, none, none, none]) (ltb rfl) rfl ?_
    refine x_iconst C dX12_fair_72 (v := (0 : Int32)) (by decide) ?_
    refine x_istore C dX12_fair_73 (L' := [some (.ref ((wM b).2.2.2 + 0)), some (.int p1), some (.int p2), some (.int p3), some (.int p4), some (.int p5), some (.int (0 : Int32)), some (.int (0 : Int32)), none, none, none, none, none, none, none, none, none, none, none, none, none]) (ltb rfl) rfl ?_
    refine x_iconst C dX12_fair_75 (v := (0 : Int32)) (by decide) ?_
    refine x_istore C dX12_fair_76 (L' := [some (.ref ((wM b).2.2.2 + 0)), some (.int p1), some (.int p2), some (.int p3), some (.int p4), some (.int p5), some (.int (0 : Int32)), some (.int (0 : Int32)), some (.int (0 : Int32)), none, none, none, none, none, none, none, none, none, none, none, none]) (ltb rfl) rfl ?_
    refine x_iconst C dX12_fair_78 (v := (0 : Int32)) (by decide) ?_
    refine x_istore C dX12_fair_79 (L' := [some (.ref ((wM b).2.2.2 + 0)), some (.int p1), some (.int p2), some (.int p3), some (.int p4), some (.int p5), some (.int (0 : Int32)), some (.int (0 : Int32)), some (.int (0 : Int32)), some (.int (0 : Int32)), none, none, none, none, none, none, none, none, none, none, none]) (ltb rfl) rfl ?_
    refine x_iconst C dX12_fair_81 (v := (0 : Int32)) (by decide) ?_
    refine x_istore C dX12_fair_82 (L' := [some (.ref ((wM b).2.2.2 + 0)), some (.int p1), some (.int p2), some (.int p3), some (.int p4), some (.int p5), some (.int (0 : Int32)), some (.int (0 : Int32)), some (.int (0 : Int32)), some (.int (0 : Int32)), some (.int (0 : Int32)), none, none, none, none, none, none, none, none, none, none]) (ltb rfl) rfl ?_
    refine x_iconst C dX12_fair_84 (v := (0 : Int32)) (by decide) ?_
    refine x_istore C dX12_fair_85 (L' := [some (.ref ((wM b).2.2.2 + 0)), some (.int p1), some (.int p2), some (.int p3), some (.int p4), some (.int p5), some (.int (0 : Int32)), some (.int (0 : Int32)), some (.int (0 : Int32)), some (.int (0 : Int32)), some (.int (0 : Int32)), some (.int (0 : Int32)), none, none, none, none, none, none, none, none, none]) (ltb rfl) rfl ?_
    refine x_iconst C dX12_fair_87 (v := (0 : Int32)) (by decide) ?_
    refine x_istore C dX12_fair_88 (L' := [some (.ref ((wM b).2.2.2 + 0)), some (.int p1), some (.int p2), some (.int p3), some (.int p4), some (.int p5), some (.int (0 : Int32)), some (.int (0 : Int32)), some (.int (0 : Int32)), some (.int (0 : Int32)), some (.int (0 : Int32)), some (.int (0 : Int32)), some (.int (0 : Int32)), none, none, none, none, none, none, none, none]) (ltb rfl) rfl ?_
    refine x_iconst C dX12_fair_90 (v := (0 : Int32)) (by decide) ?_
    refine x_istore C dX12_fair_91 (L' := [some (.ref ((wM b).2.2.2 + 0)), some (.int p1), some (.int p2), some (.int p3), some (.int p4), some (.int p5), some (.int (0 : Int32)), some (.int (0 : Int32)), some (.int (0 : Int32)), some (.int (0 : Int32)), some (.int (0 : Int32)), some (.int (0 : Int32)), some (.int (0 : Int32)), some (.int (0 : Int32)), none, none, none, none, none, none, none]) (ltb rfl) rfl ?_
    refine x_wk (L' := [some (.ref ((wM b).2.2.2 + 0)), none, some (.int p2), some (.int p3), some (.int p4), some (.int p5), some (.int (0 : Int32)), some (.int (0 : Int32)), some (.int (0 : Int32)), some (.int (0 : Int32)), some (.int (0 : Int32)), some (.int (0 : Int32)), some (.int (0 : Int32)), some (.int (0 : Int32)), none, none, none, none, none, none, none]) (And.intro rfl (And.intro rfl (And.intro rfl (And.intro rfl (And.intro rfl (And.intro rfl (And.intro rfl (And.intro rfl (And.intro rfl (And.intro rfl (And.intro rfl (And.intro rfl (And.intro rfl trivial))))))))))))) (w_md_fair_L93 C p1 p2 p3 p4 p5   (fun v6_29 v7_29 v8_29 v9_29 v10_29 v11_29 M31 => ?_) FU ((0 : Int32)) ((0 : Int32)) ((0 : Int32)) ((0 : Int32)) ((0 : Int32)) ((0 : Int32)) ((0 : Int32)) ((0 : Int32)) M3)
    refine x_iload C dX12_fair_541 (x := p5) rfl ?_
    refine x_ifne C dX12_fair_543 (tgt := 551) (by decide) (fun _h => ?_) (fun _h => ?_)
    · refine x_iload C dX12_fair_551 (x := p5) rfl ?_
      refine x_iconst C dX12_fair_553 (v := (1 : Int32)) (by decide) ?_
      refine x_icmpne C dX12_fair_554 (tgt := 562) (by decide) (fun _h => ?_) (fun _h => ?_)
      · refine x_iload C dX12_fair_562 (x := p5) rfl ?_
        refine x_iconst C dX12_fair_564 (v := (2 : Int32)) (by decide) ?_
        refine x_icmpne C dX12_fair_565 (tgt := 573) (by decide) (fun _h => ?_) (fun _h => ?_)
        · refine x_iload C dX12_fair_573 (x := p5) rfl ?_
          refine x_iconst C dX12_fair_575 (v := (3 : Int32)) (by decide) ?_
          refine x_icmpne C dX12_fair_576 (tgt := 584) (by decide) (fun _h => ?_) (fun _h => ?_)
          · refine x_iload C dX12_fair_584 (x := p5) rfl ?_
            refine x_iconst C dX12_fair_586 (v := (4 : Int32)) (by decide) ?_
            refine x_icmpne C dX12_fair_587 (tgt := 595) (by decide) (fun _h => ?_) (fun _h => ?_)
            · refine x_iload C dX12_fair_595 (x := v11_29) rfl ?_
              exact x_iret C dX12_fair_597 rfl
            · refine x_iload C dX12_fair_590 (x := v10_29) rfl ?_
              refine x_goto C dX12_fair_592 (tgt := 597) (by decide) ?_
              exact x_iret C dX12_fair_597 rfl
          · refine x_iload C dX12_fair_579 (x := v9_29) rfl ?_
            refine x_goto C dX12_fair_581 (tgt := 597) (by decide) ?_
            exact x_iret C dX12_fair_597 rfl
        · refine x_iload C dX12_fair_568 (x := v8_29) rfl ?_
          refine x_goto C dX12_fair_570 (tgt := 597) (by decide) ?_
          exact x_iret C dX12_fair_597 rfl
      · refine x_iload C dX12_fair_557 (x := v6_29) rfl ?_
        refine x_goto C dX12_fair_559 (tgt := 597) (by decide) ?_
        exact x_iret C dX12_fair_597 rfl
    · refine x_iload C dX12_fair_546 (x := v7_29) rfl ?_
      refine x_goto C dX12_fair_548 (tgt := 597) (by decide) ?_
      exact x_iret C dX12_fair_597 rfl
  · refine x_iconst C dX12_fair_62 (v := (0 : Int32)) (by decide) ?_
    exact x_iret C dX12_fair_63 rfl
set_option maxHeartbeats 4000000 in
set_option maxRecDepth 20000 in
theorem w_md_fair_J33 {z : ZT} {l : Launch} {g : GG} {b : Nat} (C : Cx z l g (wM b) (rmd 133) cX12_fair 21 RX12 (some .int)) (p1 : Int32) (p2 : Int32) (p3 : Int32) (p4 : Int32) (p5 : Int32)  (M : Mem) : XG z g (wM b) 21 (ZQ z g (wM b) finM) 0 0 33 [some (.ref ((wM b).2.2.2 + 0)), some (.int p1), some (.int p2), some (.int p3), some (.int p4), some (.int p5), none, none, none, none, none, none, none, none, none, none, none, none, none, none, none] [.ref ((wM b).2.2.2 + 0)] M (md_fair_J33 p1 p2 p3 p4 p5 M) := by
  rw [md_fair_J33]
  refine x_iconst C dX12_fair_33 (v := (1 : Int32)) (by decide) ?_
  refine x_goto C dX12_fair_34 (tgt := 52) (by decide) ?_
  exact x_wk (L' := [some (.ref ((wM b).2.2.2 + 0)), some (.int p1), some (.int p2), some (.int p3), some (.int p4), some (.int p5), none, none, none, none, none, none, none, none, none, none, none, none, none, none, none]) (And.intro rfl (And.intro rfl (And.intro rfl (And.intro rfl (And.intro rfl (And.intro rfl trivial)))))) (w_md_fair_J52 C p1 p2 p3 p4 p5   ((1 : Int32)) M)
set_option maxHeartbeats 4000000 in
set_option maxRecDepth 20000 in
theorem c_md_fair {l : Launch} {g : GG} {b : Nat} (p1 : Int32) (p2 : Int32) (p3 : Int32) (p4 : Int32) (p5 : Int32) (M : Mem) : CT l g (wM b) (rmd 133) yX12_fair cX12_fair 21 (some .int) [.ref ((wM b).2.2.2 + 0), .int p1, .int p2, .int p3, .int p4, .int p5] M finM (md_fair p1 p2 p3 p4 p5 M) := by
  refine CT.of rfl (Nat.le_of_ble_eq_true rfl) (catc rfl (catc rfl (catc rfl (catc rfl (catc rfl (catc rfl cat0)))))) (fun z C => ?_)
  have C : Cx z l g (wM b) (rmd 133) cX12_fair 21 RX12 (some .int) := C
  refine x_wk (L' := [some (.ref ((wM b).2.2.2 + 0)), some (.int p1), some (.int p2), some (.int p3), some (.int p4), some (.int p5), none, none, none, none, none, none, none, none, none, none, none, none, none, none, none]) (And.intro rfl (And.intro rfl (And.intro rfl (And.intro rfl (And.intro rfl (And.intro rfl trivial)))))) ?_
  rw [md_fair]
  refine x_aloadn C dX12_fair_0 rfl ?_
  refine x_iloadn C dX12_fair_1 (x := p2) rfl ?_
  refine x_iconst C dX12_fair_2 (v := (0 : Int32)) (by decide) ?_
  refine x_sipush C dX12_fair_3 (v := (600 : Int32)) (by decide) ?_
  refine x_Si (st := [.ref ((wM b).2.2.2 + 0)]) C (c_md_isIn  (p2) ((0 : Int32)) ((600 : Int32)) M) lk_X12_62 rfl rfl (Nat.le_of_ble_eq_true rfl) (rmok_d (by decide) (by decide)) ⟨Nat.zero_le _, Nat.zero_le _⟩ dX12_fair_6 (fun v1 => ?_)
  refine x_ifeq C dX12_fair_9 (tgt := 33) (by decide) (fun _h => ?_) (fun _h => ?_)
  · exact x_wk (L' := [some (.ref ((wM b).2.2.2 + 0)), some (.int p1), some (.int p2), some (.int p3), some (.int p4), some (.int p5), none, none, none, none, none, none, none, none, none, none, none, none, none, none, none]) (And.intro rfl (And.intro rfl (And.intro rfl (And.intro rfl (And.intro rfl (And.intro rfl trivial)))))) (w_md_fair_J33 C p1 p2 p3 p4 p5    M)
  · refine x_iloadn C dX12_fair_12 (x := p3) rfl ?_
    refine x_iconst C dX12_fair_13 (v := (0 : Int32)) (by decide) ?_
    refine x_bipush C dX12_fair_14 (v := (100 : Int32)) (by decide) ?_
    refine x_Si (st := [.ref ((wM b).2.2.2 + 0)]) C (c_md_isIn  (p3) ((0 : Int32)) ((100 : Int32)) M) lk_X12_62 rfl rfl (Nat.le_of_ble_eq_true rfl) (rmok_d (by decide) (by decide)) ⟨Nat.zero_le _, Nat.zero_le _⟩ dX12_fair_16 (fun v32 => ?_)
    refine x_ifeq C dX12_fair_19 (tgt := 33) (by decide) (fun _h => ?_) (fun _h => ?_)
    · exact x_wk (L' := [some (.ref ((wM b).2.2.2 + 0)), some (.int p1), some (.int p2), some (.int p3), some (.int p4), some (.int p5), none, none, none, none, none, none, none, none, none, none, none, none, none, none, none]) (And.intro rfl (And.intro rfl (And.intro rfl (And.intro rfl (And.intro rfl (And.intro rfl trivial)))))) (w_md_fair_J33 C p1 p2 p3 p4 p5    M)
    · refine x_iload C dX12_fair_22 (x := p4) rfl ?_
      refine x_iconst C dX12_fair_24 (v := (1 : Int32)) (by decide) ?_
      refine x_bipush C dX12_fair_25 (v := (99 : Int32)) (by decide) ?_
      refine x_Si (st := [.ref ((wM b).2.2.2 + 0)]) C (c_md_isIn  (p4) ((1 : Int32)) ((99 : Int32)) M) lk_X12_62 rfl rfl (Nat.le_of_ble_eq_true rfl) (rmok_d (by decide) (by decide)) ⟨Nat.zero_le _, Nat.zero_le _⟩ dX12_fair_27 (fun v33 => ?_)
      refine x_ifne C dX12_fair_30 (tgt := 37) (by decide) (fun _h => ?_) (fun _h => ?_)
      · refine x_iload C dX12_fair_37 (x := p5) rfl ?_
        refine x_iconst C dX12_fair_39 (v := (0 : Int32)) (by decide) ?_
        refine x_iconst C dX12_fair_40 (v := (5 : Int32)) (by decide) ?_
        refine x_Si (st := [.ref ((wM b).2.2.2 + 0)]) C (c_md_isIn  (p5) ((0 : Int32)) ((5 : Int32)) M) lk_X12_62 rfl rfl (Nat.le_of_ble_eq_true rfl) (rmok_d (by decide) (by decide)) ⟨Nat.zero_le _, Nat.zero_le _⟩ dX12_fair_41 (fun v34 => ?_)
        refine x_ifne C dX12_fair_44 (tgt := 51) (by decide) (fun _h => ?_) (fun _h => ?_)
        · refine x_iconst C dX12_fair_51 (v := (0 : Int32)) (by decide) ?_
          exact x_wk (L' := [some (.ref ((wM b).2.2.2 + 0)), some (.int p1), some (.int p2), some (.int p3), some (.int p4), some (.int p5), none, none, none, none, none, none, none, none, none, none, none, none, none, none, none]) (And.intro rfl (And.intro rfl (And.intro rfl (And.intro rfl (And.intro rfl (And.intro rfl trivial)))))) (w_md_fair_J52 C p1 p2 p3 p4 p5   ((0 : Int32)) M)
        · refine x_iconst C dX12_fair_47 (v := (2 : Int32)) (by decide) ?_
          refine x_goto C dX12_fair_48 (tgt := 52) (by decide) ?_
          exact x_wk (L' := [some (.ref ((wM b).2.2.2 + 0)), some (.int p1), some (.int p2), some (.int p3), some (.int p4), some (.int p5), none, none, none, none, none, none, none, none, none, none, none, none, none, none, none]) (And.intro rfl (And.intro rfl (And.intro rfl (And.intro rfl (And.intro rfl (And.intro rfl trivial)))))) (w_md_fair_J52 C p1 p2 p3 p4 p5   ((2 : Int32)) M)
      · exact x_wk (L' := [some (.ref ((wM b).2.2.2 + 0)), some (.int p1), some (.int p2), some (.int p3), some (.int p4), some (.int p5), none, none, none, none, none, none, none, none, none, none, none, none, none, none, none]) (And.intro rfl (And.intro rfl (And.intro rfl (And.intro rfl (And.intro rfl (And.intro rfl trivial)))))) (w_md_fair_J33 C p1 p2 p3 p4 p5    M)
def md_image_L7  (K : Mem → Option Mem) : Nat → Int32 → Mem → Option Mem
  | 0, _, _ => none
  | fu + 1, x1, M => (if x1 < (648 : Int32) then chk (inb x1 648) (chk (inb x1 648) (lt1 (wr M 2 x1.toNatClampNeg (M 1 x1.toNatClampNeg)) fun M2 => md_image_L7 K fu ((x1 + (1 : Int32))) (M2))) else K (M))
def md_image (M : Mem) : Option Mem := lt1 (wr M 0 0 (0 : Int32)) fun M1 => md_image_L7 (fun M4 => lt1 (wr M4 0 3 (1 : Int32)) fun M5 => some M5) FU ((0 : Int32)) M1
set_option maxHeartbeats 4000000 in
set_option maxRecDepth 20000 in
theorem w_md_image_L7 {z : ZT} {l : Launch} {g : GG} {b : Nat} (C : Cx z l g (wM b) (rmd 1) cX12_image 2 RX12 none)  {K : Mem → Option Mem} (hK : ∀ (M : Mem) , XG z g (wM b) 2 (ZQ z g (wM b) finV) 0 0 32 [some (.ref ((wM b).2.2.2 + 0)), none] [] M (K M)) : ∀ (fu : Nat) (x1 : Int32) (M : Mem), XG z g (wM b) 2 (ZQ z g (wM b) finV) 0 0 7 [some (.ref ((wM b).2.2.2 + 0)), some (.int x1)] [] M (md_image_L7 K fu x1 M) := by
  intro fu
  induction fu with
  | zero => intro x1 M; exact x_none
  | succ fu ih =>
    intro x1 M
    rw [md_image_L7]
    refine x_iloadn C dX12_image_7 (x := x1) rfl ?_
    refine x_sipush C dX12_image_8 (v := (648 : Int32)) (by decide) ?_
    refine x_icmpge C dX12_image_11 (tgt := 32) (by decide) (fun _h => ?_) (fun _h => ?_)
    · exact x_wk (L' := [some (.ref ((wM b).2.2.2 + 0)), none]) (And.intro rfl trivial) (hK (M))
    · refine x_aloadn C dX12_image_14 rfl ?_
      refine x_getR C fl_X12_13 cl_11 (2) nM0 kM0 fM0_2 dX12_image_15 ?_
      refine x_iloadn C dX12_image_18 (x := x1) rfl ?_
      refine x_aloadn C dX12_image_19 rfl ?_
      refine x_getR C fl_X12_7 cl_11 (1) nM0 kM0 fM0_1 dX12_image_20 ?_
      refine x_iloadn C dX12_image_23 (x := x1) rfl ?_
      refine x_iald C nM1 kM1 dX12_image_24 ?_
      refine x_iast C nM2 kM2 dX12_image_25 ?_
      refine x_ltM (fun M2 => ?_)
      refine x_iinc C dX12_image_26 (v := (x1 + (1 : Int32))) rfl rfl (L' := [some (.ref ((wM b).2.2.2 + 0)), some (.int (x1 + (1 : Int32)))]) rfl ?_
      refine x_goto C dX12_image_29 (tgt := 7) (by decide) ?_
      exact x_wk (L' := [some (.ref ((wM b).2.2.2 + 0)), some (.int (x1 + (1 : Int32)))]) (And.intro rfl (And.intro rfl trivial)) (ih ((x1 + (1 : Int32))) (M2))
set_option maxHeartbeats 4000000 in
set_option maxRecDepth 20000 in
theorem c_md_image {l : Launch} {g : GG} {b : Nat} (M : Mem) : CT l g (wM b) (rmd 1) yX12_image cX12_image 2 none [.ref ((wM b).2.2.2 + 0)] M finV (md_image  M) := by
  refine CT.of rfl (Nat.le_of_ble_eq_true rfl) (catc rfl cat0) (fun z C => ?_)
  have C : Cx z l g (wM b) (rmd 1) cX12_image 2 RX12 none := C
  refine x_wk (L' := [some (.ref ((wM b).2.2.2 + 0)), none]) (And.intro rfl trivial) ?_
  rw [md_image]
  refine x_aloadn C dX12_image_0 rfl ?_
  refine x_iconst C dX12_image_1 (v := (0 : Int32)) (by decide) ?_
  refine x_putI C fl_X12_59 cl_11 fint_11_0 nM0 kM0 fM0_0 dX12_image_2 ?_
  refine x_ltM (fun M1 => ?_)
  refine x_iconst C dX12_image_5 (v := (0 : Int32)) (by decide) ?_
  refine x_istoren C dX12_image_6 (L' := [some (.ref ((wM b).2.2.2 + 0)), some (.int (0 : Int32))]) (ltb rfl) rfl ?_
  refine x_wk (L' := [some (.ref ((wM b).2.2.2 + 0)), some (.int (0 : Int32))]) (And.intro rfl (And.intro rfl trivial)) (w_md_image_L7 C    (fun M4 => ?_) FU ((0 : Int32)) M1)
  refine x_aloadn C dX12_image_32 rfl ?_
  refine x_iconst C dX12_image_33 (v := (1 : Int32)) (by decide) ?_
  refine x_putB C fl_X12_298 cl_11 fboo_11_3 nM0 kM0 fM0_3 dX12_image_34 (by decide) ?_
  refine x_ltM (fun M5 => ?_)
  exact x_vret C dX12_image_37 rfl
def md_back_L16  (K : Mem → Option (Int32 × Mem)) : Nat → Int32 → Mem → Option (Int32 × Mem)
  | 0, _, _ => none
  | fu + 1, x1, M => (if x1 < (648 : Int32) then chk (inb x1 648) (chk (inb x1 648) (lt1 (wr M 1 x1.toNatClampNeg (M 2 x1.toNatClampNeg)) fun M2 => md_back_L16 K fu ((x1 + (1 : Int32))) (M2))) else K (M))
def md_back (M : Mem) : Option (Int32 × Mem) := lt1 (wr M 0 0 (0 : Int32)) fun M1 => (if (M1 0 3) = 0 then some ((0 : Int32), M1) else md_back_L16 (fun M4 => some ((1 : Int32), M4)) FU ((0 : Int32)) M1)
set_option maxHeartbeats 4000000 in
set_option maxRecDepth 20000 in
theorem w_md_back_L16 {z : ZT} {l : Launch} {g : GG} {b : Nat} (C : Cx z l g (wM b) (rmd 1) cX12_back 2 RX12 (some .boolean))  {K : Mem → Option (Int32 × Mem)} (hK : ∀ (M : Mem) , XG z g (wM b) 2 (ZQ z g (wM b) finM) 0 0 41 [none, none] [] M (K M)) : ∀ (fu : Nat) (x1 : Int32) (M : Mem), XG z g (wM b) 2 (ZQ z g (wM b) finM) 0 0 16 [some (.ref ((wM b).2.2.2 + 0)), some (.int x1)] [] M (md_back_L16 K fu x1 M) := by
  intro fu
  induction fu with
  | zero => intro x1 M; exact x_none
  | succ fu ih =>
    intro x1 M
    rw [md_back_L16]
    refine x_iloadn C dX12_back_16 (x := x1) rfl ?_
    refine x_sipush C dX12_back_17 (v := (648 : Int32)) (by decide) ?_
    refine x_icmpge C dX12_back_20 (tgt := 41) (by decide) (fun _h => ?_) (fun _h => ?_)
    · exact x_wk (L' := [none, none]) (trivial) (hK (M))
    · refine x_aloadn C dX12_back_23 rfl ?_
      refine x_getR C fl_X12_7 cl_11 (1) nM0 kM0 fM0_1 dX12_back_24 ?_
      refine x_iloadn C dX12_back_27 (x := x1) rfl ?_
      refine x_aloadn C dX12_back_28 rfl ?_
      refine x_getR C fl_X12_13 cl_11 (2) nM0 kM0 fM0_2 dX12_back_29 ?_
      refine x_iloadn C dX12_back_32 (x := x1) rfl ?_
      refine x_iald C nM2 kM2 dX12_back_33 ?_
      refine x_iast C nM1 kM1 dX12_back_34 ?_
      refine x_ltM (fun M2 => ?_)
      refine x_iinc C dX12_back_35 (v := (x1 + (1 : Int32))) rfl rfl (L' := [some (.ref ((wM b).2.2.2 + 0)), some (.int (x1 + (1 : Int32)))]) rfl ?_
      refine x_goto C dX12_back_38 (tgt := 16) (by decide) ?_
      exact x_wk (L' := [some (.ref ((wM b).2.2.2 + 0)), some (.int (x1 + (1 : Int32)))]) (And.intro rfl (And.intro rfl trivial)) (ih ((x1 + (1 : Int32))) (M2))
set_option maxHeartbeats 4000000 in
set_option maxRecDepth 20000 in
theorem c_md_back {l : Launch} {g : GG} {b : Nat} (M : Mem) : CT l g (wM b) (rmd 1) yX12_back cX12_back 2 (some .boolean) [.ref ((wM b).2.2.2 + 0)] M finM (md_back  M) := by
  refine CT.of rfl (Nat.le_of_ble_eq_true rfl) (catc rfl cat0) (fun z C => ?_)
  have C : Cx z l g (wM b) (rmd 1) cX12_back 2 RX12 (some .boolean) := C
  refine x_wk (L' := [some (.ref ((wM b).2.2.2 + 0)), none]) (And.intro rfl trivial) ?_
  rw [md_back]
  refine x_aloadn C dX12_back_0 rfl ?_
  refine x_iconst C dX12_back_1 (v := (0 : Int32)) (by decide) ?_
  refine x_putI C fl_X12_59 cl_11 fint_11_0 nM0 kM0 fM0_0 dX12_back_2 ?_
  refine x_ltM (fun M1 => ?_)
  refine x_aloadn C dX12_back_5 rfl ?_
  refine x_getI C fl_X12_298 cl_11 nM0 kM0 fM0_3 dX12_back_6 ?_
  refine x_ifne C dX12_back_9 (tgt := 14) (by decide) (fun _h => ?_) (fun _h => ?_)
  · refine x_iconst C dX12_back_14 (v := (0 : Int32)) (by decide) ?_
    refine x_istoren C dX12_back_15 (L' := [some (.ref ((wM b).2.2.2 + 0)), some (.int (0 : Int32))]) (ltb rfl) rfl ?_
    refine x_wk (L' := [some (.ref ((wM b).2.2.2 + 0)), some (.int (0 : Int32))]) (And.intro rfl (And.intro rfl trivial)) (w_md_back_L16 C    (fun M4 => ?_) FU ((0 : Int32)) M1)
    refine x_iconst C dX12_back_41 (v := (1 : Int32)) (by decide) ?_
    exact x_zret C dX12_back_42 rfl rfl
  · refine x_iconst C dX12_back_12 (v := (0 : Int32)) (by decide) ?_
    exact x_zret C dX12_back_13 rfl rfl
def md_count (p1 : Int32) (M : Mem) : Option (Int32 × Mem) := lt1 (wr M 0 0 (0 : Int32)) fun M1 => (if p1 = (4 : Int32) then some ((M1 1 4), M1) else (if p1 = (5 : Int32) then (md_stream M1).bind fun v2 => some (v2, M1) else (if p1 = 0 then some ((M1 1 1), M1) else (if p1 = (1 : Int32) then some ((M1 1 0), M1) else (if p1 = (2 : Int32) then some ((M1 1 2), M1) else (if p1 = (3 : Int32) then some ((M1 1 3), M1) else (if p1 = (6 : Int32) then some ((M1 1 5), M1) else (if p1 = (7 : Int32) then some ((M1 1 6), M1) else (if p1 = (8 : Int32) then some ((M1 1 7), M1) else (if p1 = (9 : Int32) then some ((M1 1 8), M1) else (if p1 = (10 : Int32) then some ((M1 1 10), M1) else (if p1 = (11 : Int32) then some ((M1 1 11), M1) else some ((-1 : Int32), M1)))))))))))))
set_option maxHeartbeats 4000000 in
set_option maxRecDepth 20000 in
theorem c_md_count {l : Launch} {g : GG} {b : Nat} (p1 : Int32) (M : Mem) : CT l g (wM b) (rmd 2) yX12_count cX12_count 2 (some .int) [.ref ((wM b).2.2.2 + 0), .int p1] M finM (md_count p1 M) := by
  refine CT.of rfl (Nat.le_of_ble_eq_true rfl) (catc rfl (catc rfl cat0)) (fun z C => ?_)
  have C : Cx z l g (wM b) (rmd 2) cX12_count 2 RX12 (some .int) := C
  refine x_wk (L' := [some (.ref ((wM b).2.2.2 + 0)), some (.int p1)]) (And.intro rfl (And.intro rfl trivial)) ?_
  rw [md_count]
  refine x_aloadn C dX12_count_0 rfl ?_
  refine x_iconst C dX12_count_1 (v := (0 : Int32)) (by decide) ?_
  refine x_putI C fl_X12_59 cl_11 fint_11_0 nM0 kM0 fM0_0 dX12_count_2 ?_
  refine x_ltM (fun M1 => ?_)
  refine x_iloadn C dX12_count_5 (x := p1) rfl ?_
  refine x_iconst C dX12_count_6 (v := (4 : Int32)) (by decide) ?_
  refine x_icmpne C dX12_count_7 (tgt := 17) (by decide) (fun _h => ?_) (fun _h => ?_)
  · refine x_iloadn C dX12_count_17 (x := p1) rfl ?_
    refine x_iconst C dX12_count_18 (v := (5 : Int32)) (by decide) ?_
    refine x_icmpne C dX12_count_19 (tgt := 27) (by decide) (fun _h => ?_) (fun _h => ?_)
    · refine x_iloadn C dX12_count_27 (x := p1) rfl ?_
      refine x_ifne C dX12_count_28 (tgt := 40) (by decide) (fun _h => ?_) (fun _h => ?_)
      · refine x_iloadn C dX12_count_40 (x := p1) rfl ?_
        refine x_iconst C dX12_count_41 (v := (1 : Int32)) (by decide) ?_
        refine x_icmpne C dX12_count_42 (tgt := 54) (by decide) (fun _h => ?_) (fun _h => ?_)
        · refine x_iloadn C dX12_count_54 (x := p1) rfl ?_
          refine x_iconst C dX12_count_55 (v := (2 : Int32)) (by decide) ?_
          refine x_icmpne C dX12_count_56 (tgt := 68) (by decide) (fun _h => ?_) (fun _h => ?_)
          · refine x_iloadn C dX12_count_68 (x := p1) rfl ?_
            refine x_iconst C dX12_count_69 (v := (3 : Int32)) (by decide) ?_
            refine x_icmpne C dX12_count_70 (tgt := 82) (by decide) (fun _h => ?_) (fun _h => ?_)
            · refine x_iloadn C dX12_count_82 (x := p1) rfl ?_
              refine x_bipush C dX12_count_83 (v := (6 : Int32)) (by decide) ?_
              refine x_icmpne C dX12_count_85 (tgt := 97) (by decide) (fun _h => ?_) (fun _h => ?_)
              · refine x_iloadn C dX12_count_97 (x := p1) rfl ?_
                refine x_bipush C dX12_count_98 (v := (7 : Int32)) (by decide) ?_
                refine x_icmpne C dX12_count_100 (tgt := 113) (by decide) (fun _h => ?_) (fun _h => ?_)
                · refine x_iloadn C dX12_count_113 (x := p1) rfl ?_
                  refine x_bipush C dX12_count_114 (v := (8 : Int32)) (by decide) ?_
                  refine x_icmpne C dX12_count_116 (tgt := 129) (by decide) (fun _h => ?_) (fun _h => ?_)
                  · refine x_iloadn C dX12_count_129 (x := p1) rfl ?_
                    refine x_bipush C dX12_count_130 (v := (9 : Int32)) (by decide) ?_
                    refine x_icmpne C dX12_count_132 (tgt := 145) (by decide) (fun _h => ?_) (fun _h => ?_)
                    · refine x_iloadn C dX12_count_145 (x := p1) rfl ?_
                      refine x_bipush C dX12_count_146 (v := (10 : Int32)) (by decide) ?_
                      refine x_icmpne C dX12_count_148 (tgt := 161) (by decide) (fun _h => ?_) (fun _h => ?_)
                      · refine x_iloadn C dX12_count_161 (x := p1) rfl ?_
                        refine x_bipush C dX12_count_162 (v := (11 : Int32)) (by decide) ?_
                        refine x_icmpne C dX12_count_164 (tgt := 177) (by decide) (fun _h => ?_) (fun _h => ?_)
                        · refine x_iconst C dX12_count_177 (v := (-1 : Int32)) (by decide) ?_
                          exact x_iret C dX12_count_178 rfl
                        · refine x_aloadn C dX12_count_167 rfl ?_
                          refine x_getR C fl_X12_7 cl_11 (1) nM0 kM0 fM0_1 dX12_count_168 ?_
                          refine x_bipush C dX12_count_171 (v := (11 : Int32)) (by decide) ?_
                          refine x_ialdj C nM1 kM1 (j := 11) (by decide) (by decide) dX12_count_173 ?_
                          refine x_goto C dX12_count_174 (tgt := 178) (by decide) ?_
                          exact x_iret C dX12_count_178 rfl
                      · refine x_aloadn C dX12_count_151 rfl ?_
                        refine x_getR C fl_X12_7 cl_11 (1) nM0 kM0 fM0_1 dX12_count_152 ?_
                        refine x_bipush C dX12_count_155 (v := (10 : Int32)) (by decide) ?_
                        refine x_ialdj C nM1 kM1 (j := 10) (by decide) (by decide) dX12_count_157 ?_
                        refine x_goto C dX12_count_158 (tgt := 178) (by decide) ?_
                        exact x_iret C dX12_count_178 rfl
                    · refine x_aloadn C dX12_count_135 rfl ?_
                      refine x_getR C fl_X12_7 cl_11 (1) nM0 kM0 fM0_1 dX12_count_136 ?_
                      refine x_bipush C dX12_count_139 (v := (8 : Int32)) (by decide) ?_
                      refine x_ialdj C nM1 kM1 (j := 8) (by decide) (by decide) dX12_count_141 ?_
                      refine x_goto C dX12_count_142 (tgt := 178) (by decide) ?_
                      exact x_iret C dX12_count_178 rfl
                  · refine x_aloadn C dX12_count_119 rfl ?_
                    refine x_getR C fl_X12_7 cl_11 (1) nM0 kM0 fM0_1 dX12_count_120 ?_
                    refine x_bipush C dX12_count_123 (v := (7 : Int32)) (by decide) ?_
                    refine x_ialdj C nM1 kM1 (j := 7) (by decide) (by decide) dX12_count_125 ?_
                    refine x_goto C dX12_count_126 (tgt := 178) (by decide) ?_
                    exact x_iret C dX12_count_178 rfl
                · refine x_aloadn C dX12_count_103 rfl ?_
                  refine x_getR C fl_X12_7 cl_11 (1) nM0 kM0 fM0_1 dX12_count_104 ?_
                  refine x_bipush C dX12_count_107 (v := (6 : Int32)) (by decide) ?_
                  refine x_ialdj C nM1 kM1 (j := 6) (by decide) (by decide) dX12_count_109 ?_
                  refine x_goto C dX12_count_110 (tgt := 178) (by decide) ?_
                  exact x_iret C dX12_count_178 rfl
              · refine x_aloadn C dX12_count_88 rfl ?_
                refine x_getR C fl_X12_7 cl_11 (1) nM0 kM0 fM0_1 dX12_count_89 ?_
                refine x_iconst C dX12_count_92 (v := (5 : Int32)) (by decide) ?_
                refine x_ialdj C nM1 kM1 (j := 5) (by decide) (by decide) dX12_count_93 ?_
                refine x_goto C dX12_count_94 (tgt := 178) (by decide) ?_
                exact x_iret C dX12_count_178 rfl
            · refine x_aloadn C dX12_count_73 rfl ?_
              refine x_getR C fl_X12_7 cl_11 (1) nM0 kM0 fM0_1 dX12_count_74 ?_
              refine x_iconst C dX12_count_77 (v := (3 : Int32)) (by decide) ?_
              refine x_ialdj C nM1 kM1 (j := 3) (by decide) (by decide) dX12_count_78 ?_
              refine x_goto C dX12_count_79 (tgt := 178) (by decide) ?_
              exact x_iret C dX12_count_178 rfl
          · refine x_aloadn C dX12_count_59 rfl ?_
            refine x_getR C fl_X12_7 cl_11 (1) nM0 kM0 fM0_1 dX12_count_60 ?_
            refine x_iconst C dX12_count_63 (v := (2 : Int32)) (by decide) ?_
            refine x_ialdj C nM1 kM1 (j := 2) (by decide) (by decide) dX12_count_64 ?_
            refine x_goto C dX12_count_65 (tgt := 178) (by decide) ?_
            exact x_iret C dX12_count_178 rfl
        · refine x_aloadn C dX12_count_45 rfl ?_
          refine x_getR C fl_X12_7 cl_11 (1) nM0 kM0 fM0_1 dX12_count_46 ?_
          refine x_iconst C dX12_count_49 (v := (0 : Int32)) (by decide) ?_
          refine x_ialdj C nM1 kM1 (j := 0) (by decide) (by decide) dX12_count_50 ?_
          refine x_goto C dX12_count_51 (tgt := 178) (by decide) ?_
          exact x_iret C dX12_count_178 rfl
      · refine x_aloadn C dX12_count_31 rfl ?_
        refine x_getR C fl_X12_7 cl_11 (1) nM0 kM0 fM0_1 dX12_count_32 ?_
        refine x_iconst C dX12_count_35 (v := (1 : Int32)) (by decide) ?_
        refine x_ialdj C nM1 kM1 (j := 1) (by decide) (by decide) dX12_count_36 ?_
        refine x_goto C dX12_count_37 (tgt := 178) (by decide) ?_
        exact x_iret C dX12_count_178 rfl
    · refine x_aloadn C dX12_count_22 rfl ?_
      refine x_Vi (st := []) C (c_md_stream   M1) lk_X12_78 nM0 kM0 ⟨_, _, rfl⟩ rfl rfl (Nat.le_of_ble_eq_true rfl) (rmok_d (by decide) (by decide)) ⟨Nat.zero_le _, Nat.zero_le _⟩ dX12_count_23 (fun v2 => ?_)
      exact x_iret C dX12_count_26 rfl
  · refine x_aloadn C dX12_count_10 rfl ?_
    refine x_getR C fl_X12_7 cl_11 (1) nM0 kM0 fM0_1 dX12_count_11 ?_
    refine x_iconst C dX12_count_14 (v := (4 : Int32)) (by decide) ?_
    refine x_ialdj C nM1 kM1 (j := 4) (by decide) (by decide) dX12_count_15 ?_
    exact x_iret C dX12_count_16 rfl
