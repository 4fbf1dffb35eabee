def md_has_L9 (p1 : Nat) (M : Mem) (K : Int32 → Option (Int32 × Mem)) : Nat → Int32 → Option (Int32 × Mem)
  | 0, _ => none
  | fu + 1, x2 => (if x2 < (M 0 8) then (md_letter (x2) M).bind fun v2 => (md_isIn (v2) ((97 : Int32)) ((122 : Int32)) M).bind fun v3 => (if v3 = 0 then K (x2) else md_has_L9 p1 M K fu ((x2 + (1 : Int32)))) else K (x2))
def md_has_L55 (p1 : Nat) (y2 : Int32) (M : Mem) (K : Option (Int32 × Mem)) : Nat → Int32 → Option (Int32 × Mem)
  | 0, _ => none
  | fu + 1, x3 => (if x3 < (Int32.ofNat (slen p1)) then (md_letter (((M 0 9) + x3)) M).bind fun v5 => chk (inb x3 (slen p1)) ((if v5 = (schr p1 x3.toNatClampNeg) then md_has_L55 p1 y2 M K fu ((x3 + (1 : Int32))) else some ((0 : Int32), M))) else K)
def md_has_J38 (p1 : Nat) (x2 : Int32) (M : Mem) : Option (Int32 × Mem) := (if (x2 - (M 0 9)) = (Int32.ofNat (slen p1)) then md_has_L55 p1 (x2) M (lt1 (wr M 0 9 x2) fun M7 => some ((1 : Int32), M7)) FU ((0 : Int32)) else some ((0 : Int32), M))
def md_has (p1 : Nat) (M : Mem) : Option (Int32 × Mem) := (md_skip M).bind fun M1 => md_has_L9 p1 M1 (fun v2_3 => md_has_J38 p1 (v2_3) M1) FU ((M1 0 9))
set_option maxHeartbeats 4000000 in
set_option maxRecDepth 20000 in
theorem w_md_has_L9 {z : ZT} {l : Launch} {g : GG} {b : Nat} {p1 : Nat} (C : Cx z l g (wM b) (rmd 6) cX12_has 4 RX12 (some .boolean)) (hs : p1 < 58) (M : Mem) {K : Int32 → Option (Int32 × Mem)} (hK : ∀ (x2 : Int32) , XG z g (wM b) 4 (ZQ z g (wM b) finM) 0 0 38 [some (.ref ((wM b).2.2.2 + 0)), some (.ref (g.2.2.2.1 p1)), some (.int x2), none] [] M (K x2)) : ∀ (fu : Nat) (x2 : Int32), XG z g (wM b) 4 (ZQ z g (wM b) finM) 0 0 9 [some (.ref ((wM b).2.2.2 + 0)), some (.ref (g.2.2.2.1 p1)), some (.int x2), none] [] M (md_has_L9 p1 M K fu x2) := by
  intro fu
  induction fu with
  | zero => intro x2; exact x_none
  | succ fu ih =>
    intro x2
    rw [md_has_L9]
    refine x_iloadn C dX12_has_9 (x := x2) rfl ?_
    refine x_aloadn C dX12_has_10 rfl ?_
    refine x_getI C fl_X12_91 cl_11 nM0 kM0 fM0_8 dX12_has_11 ?_
    refine x_icmpge C dX12_has_14 (tgt := 38) (by decide) (fun _h => ?_) (fun _h => ?_)
    · exact x_wk (L' := [some (.ref ((wM b).2.2.2 + 0)), some (.ref (g.2.2.2.1 p1)), some (.int x2), none]) (And.intro rfl (And.intro rfl (And.intro rfl trivial))) (hK (x2))
    · refine x_aloadn C dX12_has_17 rfl ?_
      refine x_iloadn C dX12_has_18 (x := x2) rfl ?_
      refine x_Vi (st := []) C (c_md_letter  (x2) M) lk_X12_94 nM0 kM0 ⟨_, _, rfl⟩ rfl rfl (Nat.le_of_ble_eq_true rfl) (rmok_d (by decide) (by decide)) ⟨Nat.zero_le _, Nat.zero_le _⟩ dX12_has_19 (fun v2 => ?_)
      refine x_bipush C dX12_has_22 (v := (97 : Int32)) (by decide) ?_
      refine x_bipush C dX12_has_24 (v := (122 : Int32)) (by decide) ?_
      refine x_Si (st := []) C (c_md_isIn  (v2) ((97 : Int32)) ((122 : Int32)) M) lk_X12_62 rfl rfl (Nat.le_of_ble_eq_true rfl) (rmok_d (by decide) (by decide)) ⟨Nat.zero_le _, Nat.zero_le _⟩ dX12_has_26 (fun v3 => ?_)
      refine x_ifeq C dX12_has_29 (tgt := 38) (by decide) (fun _h => ?_) (fun _h => ?_)
      · exact x_wk (L' := [some (.ref ((wM b).2.2.2 + 0)), some (.ref (g.2.2.2.1 p1)), some (.int x2), none]) (And.intro rfl (And.intro rfl (And.intro rfl trivial))) (hK (x2))
      · refine x_iinc C dX12_has_32 (v := (x2 + (1 : Int32))) rfl rfl (L' := [some (.ref ((wM b).2.2.2 + 0)), some (.ref (g.2.2.2.1 p1)), some (.int (x2 + (1 : Int32))), none]) rfl ?_
        refine x_goto C dX12_has_35 (tgt := 9) (by decide) ?_
        exact x_wk (L' := [some (.ref ((wM b).2.2.2 + 0)), some (.ref (g.2.2.2.1 p1)), some (.int (x2 + (1 : Int32))), none]) (And.intro rfl (And.intro rfl (And.intro rfl trivial))) (ih ((x2 + (1 : Int32))))
set_option maxHeartbeats 4000000 in
set_option maxRecDepth 20000 in
theorem w_md_has_L55 {z : ZT} {l : Launch} {g : GG} {b : Nat} {p1 : Nat} (C : Cx z l g (wM b) (rmd 6) cX12_has 4 RX12 (some .boolean)) (hs : p1 < 58) (y2 : Int32) (M : Mem) {K : Option (Int32 × Mem)} (hK : XG z g (wM b) 4 (ZQ z g (wM b) finM) 0 0 89 [some (.ref ((wM b).2.2.2 + 0)), none, some (.int y2), none] [] M (K )) : ∀ (fu : Nat) (x3 : Int32), XG z g (wM b) 4 (ZQ z g (wM b) finM) 0 0 55 [some (.ref ((wM b).2.2.2 + 0)), some (.ref (g.2.2.2.1 p1)), some (.int y2), some (.int x3)] [] M (md_has_L55 p1 y2 M K fu x3) := by
  intro fu
  induction fu with
  | zero => intro x3; exact x_none
  | succ fu ih =>
    intro x3
    rw [md_has_L55]
    refine x_iloadn C dX12_has_55 (x := x3) rfl ?_
    refine x_aloadn C dX12_has_56 rfl ?_
    refine x_slen C hs lk_X12_100  (Nat.le_of_ble_eq_true rfl) (rmok_d (by decide) (by decide)) ⟨Nat.zero_le _, Nat.zero_le _⟩ dX12_has_57 ?_
    refine x_icmpge C dX12_has_60 (tgt := 89) (by decide) (fun _h => ?_) (fun _h => ?_)
    · exact x_wk (L' := [some (.ref ((wM b).2.2.2 + 0)), none, some (.int y2), none]) (And.intro rfl (And.intro rfl trivial)) (hK )
    · refine x_aloadn C dX12_has_63 rfl ?_
      refine x_aloadn C dX12_has_64 rfl ?_
      refine x_getI C fl_X12_88 cl_11 nM0 kM0 fM0_9 dX12_has_65 ?_
      refine x_iloadn C dX12_has_68 (x := x3) rfl ?_
      refine x_iadd C dX12_has_69 ?_
      refine x_Vi (st := []) C (c_md_letter  (((M 0 9) + x3)) M) lk_X12_94 nM0 kM0 ⟨_, _, rfl⟩ rfl rfl (Nat.le_of_ble_eq_true rfl) (rmok_d (by decide) (by decide)) ⟨Nat.zero_le _, Nat.zero_le _⟩ dX12_has_70 (fun v5 => ?_)
      refine x_aloadn C dX12_has_73 rfl ?_
      refine x_iloadn C dX12_has_74 (x := x3) rfl ?_
      refine x_sch C hs lk_X12_105  (Nat.le_of_ble_eq_true rfl) (rmok_d (by decide) (by decide)) ⟨Nat.zero_le _, Nat.zero_le _⟩ dX12_has_75 ?_
      refine x_icmpeq C dX12_has_78 (tgt := 83) (by decide) (fun _h => ?_) (fun _h => ?_)
      · refine x_iinc C dX12_has_83 (v := (x3 + (1 : Int32))) rfl rfl (L' := [some (.ref ((wM b).2.2.2 + 0)), some (.ref (g.2.2.2.1 p1)), some (.int y2), some (.int (x3 + (1 : Int32)))]) rfl ?_
        refine x_goto C dX12_has_86 (tgt := 55) (by decide) ?_
        exact x_wk (L' := [some (.ref ((wM b).2.2.2 + 0)), some (.ref (g.2.2.2.1 p1)), some (.int y2), some (.int (x3 + (1 : Int32)))]) (And.intro rfl (And.intro rfl (And.intro rfl (And.intro rfl trivial)))) (ih ((x3 + (1 : Int32))))
      · refine x_iconst C dX12_has_81 (v := (0 : Int32)) (by decide) ?_
        exact x_zret C dX12_has_82 rfl rfl
set_option maxHeartbeats 4000000 in
set_option maxRecDepth 20000 in
theorem w_md_has_J38 {z : ZT} {l : Launch} {g : GG} {b : Nat} {p1 : Nat} (C : Cx z l g (wM b) (rmd 6) cX12_has 4 RX12 (some .boolean)) (hs : p1 < 58)   (x2 : Int32) (M : Mem) : XG z g (wM b) 4 (ZQ z g (wM b) finM) 0 0 38 [some (.ref ((wM b).2.2.2 + 0)), some (.ref (g.2.2.2.1 p1)), some (.int x2), none] [] M (md_has_J38 p1 x2 M) := by
  rw [md_has_J38]
  refine x_iloadn C dX12_has_38 (x := x2) rfl ?_
  refine x_aloadn C dX12_has_39 rfl ?_
  refine x_getI C fl_X12_88 cl_11 nM0 kM0 fM0_9 dX12_has_40 ?_
  refine x_isub C dX12_has_43 ?_
  refine x_aloadn C dX12_has_44 rfl ?_
  refine x_slen C hs lk_X12_100  (Nat.le_of_ble_eq_true rfl) (rmok_d (by decide) (by decide)) ⟨Nat.zero_le _, Nat.zero_le _⟩ dX12_has_45 ?_
  refine x_icmpeq C dX12_has_48 (tgt := 53) (by decide) (fun _h => ?_) (fun _h => ?_)
  · refine x_iconst C dX12_has_53 (v := (0 : Int32)) (by decide) ?_
    refine x_istoren C dX12_has_54 (L' := [some (.ref ((wM b).2.2.2 + 0)), some (.ref (g.2.2.2.1 p1)), some (.int x2), some (.int (0 : Int32))]) (ltb rfl) rfl ?_
    refine x_wk (L' := [some (.ref ((wM b).2.2.2 + 0)), some (.ref (g.2.2.2.1 p1)), some (.int x2), some (.int (0 : Int32))]) (And.intro rfl (And.intro rfl (And.intro rfl (And.intro rfl trivial)))) (w_md_has_L55 C hs  (x2) M ?_ FU ((0 : Int32)) )
    refine x_aloadn C dX12_has_89 rfl ?_
    refine x_iloadn C dX12_has_90 (x := x2) rfl ?_
    refine x_putI C fl_X12_88 cl_11 fint_11_9 nM0 kM0 fM0_9 dX12_has_91 ?_
    refine x_ltM (fun M7 => ?_)
    refine x_iconst C dX12_has_94 (v := (1 : Int32)) (by decide) ?_
    exact x_zret C dX12_has_95 rfl rfl
  · refine x_iconst C dX12_has_51 (v := (0 : Int32)) (by decide) ?_
    exact x_zret C dX12_has_52 rfl rfl
set_option maxHeartbeats 4000000 in
set_option maxRecDepth 20000 in
theorem c_md_has {l : Launch} {g : GG} {b : Nat} {p1 : Nat} (hs : p1 < 58) (M : Mem) : CT l g (wM b) (rmd 6) yX12_has cX12_has 4 (some .boolean) [.ref ((wM b).2.2.2 + 0), .ref (g.2.2.2.1 p1)] M finM (md_has p1 M) := by
  refine CT.of rfl (Nat.le_of_ble_eq_true rfl) (catc rfl (catc rfl cat0)) (fun z C => ?_)
  have C : Cx z l g (wM b) (rmd 6) cX12_has 4 RX12 (some .boolean) := C
  refine x_wk (L' := [some (.ref ((wM b).2.2.2 + 0)), some (.ref (g.2.2.2.1 p1)), none, none]) (And.intro rfl (And.intro rfl trivial)) ?_
  rw [md_has]
  refine x_aloadn C dX12_has_0 rfl ?_
  refine x_Vv (st := []) C (c_md_skip   M) lk_X12_97 nM0 kM0 ⟨_, _, rfl⟩ rfl rfl (Nat.le_of_ble_eq_true rfl) (rmok_d (by decide) (by decide)) ⟨Nat.zero_le _, Nat.zero_le _⟩ dX12_has_1 (fun M1 => ?_)
  refine x_aloadn C dX12_has_4 rfl ?_
  refine x_getI C fl_X12_88 cl_11 nM0 kM0 fM0_9 dX12_has_5 ?_
  refine x_istoren C dX12_has_8 (L' := [some (.ref ((wM b).2.2.2 + 0)), some (.ref (g.2.2.2.1 p1)), some (.int (M1 0 9)), none]) (ltb rfl) rfl ?_
  refine x_wk (L' := [some (.ref ((wM b).2.2.2 + 0)), some (.ref (g.2.2.2.1 p1)), some (.int (M1 0 9)), none]) (And.intro rfl (And.intro rfl (And.intro rfl trivial))) (w_md_has_L9 C hs   M1 (fun v2_3 => ?_) FU ((M1 0 9)) )
  exact x_wk (L' := [some (.ref ((wM b).2.2.2 + 0)), some (.ref (g.2.2.2.1 p1)), some (.int v2_3), none]) (And.intro rfl (And.intro rfl (And.intro rfl trivial))) (w_md_has_J38 C hs   (v2_3)  M1)
def md_wrong (p1 : Int32) (M : Mem) : Option Mem := (if (M 0 10) = (-1 : Int32) then lt1 (wr M 0 10 p1) fun M1 => some M1 else some M)
set_option maxHeartbeats 4000000 in
set_option maxRecDepth 20000 in
theorem c_md_wrong {l : Launch} {g : GG} {b : Nat} (p1 : Int32) (M : Mem) : CT l g (wM b) (rmd 1) yX12_wrong cX12_wrong 2 none [.ref ((wM b).2.2.2 + 0), .int p1] M finV (md_wrong p1 M) := by
  refine CT.of rfl (Nat.le_of_ble_eq_true rfl) (catc rfl (catc rfl cat0)) (fun z C => ?_)
  have C : Cx z l g (wM b) (rmd 1) cX12_wrong 2 RX12 none := C
  refine x_wk (L' := [some (.ref ((wM b).2.2.2 + 0)), some (.int p1)]) (And.intro rfl (And.intro rfl trivial)) ?_
  rw [md_wrong]
  refine x_aloadn C dX12_wrong_0 rfl ?_
  refine x_getI C fl_X12_22 cl_11 nM0 kM0 fM0_10 dX12_wrong_1 ?_
  refine x_iconst C dX12_wrong_4 (v := (-1 : Int32)) (by decide) ?_
  refine x_icmpne C dX12_wrong_5 (tgt := 13) (by decide) (fun _h => ?_) (fun _h => ?_)
  · exact x_vret C dX12_wrong_13 rfl
  · refine x_aloadn C dX12_wrong_8 rfl ?_
    refine x_iloadn C dX12_wrong_9 (x := p1) rfl ?_
    refine x_putI C fl_X12_22 cl_11 fint_11_10 nM0 kM0 fM0_10 dX12_wrong_10 ?_
    refine x_ltM (fun M1 => ?_)
    exact x_vret C dX12_wrong_13 rfl
def md_figures_L22 (p1 : Int32) (p2 : Int32) (y3 : Int32) (K : Int32 → Mem → Option (Int32 × Mem)) : Nat → Int32 → Mem → Option (Int32 × Mem)
  | 0, _, _ => none
  | fu + 1, x4, M => (if (M 0 9) < (M 0 8) then (md_letter ((M 0 9)) M).bind fun v2 => (md_isIn (v2) ((48 : Int32)) ((57 : Int32)) M).bind fun v3 => (if v3 = 0 then K (x4) (M) else (if ((M 0 9) - y3) < (4 : Int32) then (md_letter ((M 0 9)) M).bind fun v4 => lt1 (((((10 : Int32) * x4) + v4) - (48 : Int32))) fun v5 => lt1 (wr M 0 9 ((M 0 9) + (1 : Int32))) fun M6 => md_figures_L22 p1 p2 y3 K fu (v5) (M6) else K (x4) (M))) else K (x4) (M))
def md_figures_J93 (p1 : Int32) (p2 : Int32) (x3 : Int32) (x4 : Int32) (M : Mem) : Option (Int32 × Mem) := (if (M 0 9) = x3 then (md_wrong (x3) M).bind fun M9 => some (x4, M9) else (if (3 : Int32) < ((M 0 9) - x3) then (md_wrong (x3) M).bind fun M10 => some (x4, M10) else (if x4 < p1 then (md_wrong (x3) M).bind fun M11 => some (x4, M11) else (if p2 < x4 then (md_wrong (x3) M).bind fun M12 => some (x4, M12) else some (x4, M)))))
def md_figures (p1 : Int32) (p2 : Int32) (M : Mem) : Option (Int32 × Mem) := (if (M 0 10) = (-1 : Int32) then (md_skip M).bind fun M1 => md_figures_L22 p1 p2 ((M1 0 9)) (fun v4_6 M8 => md_figures_J93 p1 p2 ((M1 0 9)) (v4_6) M8) FU ((0 : Int32)) M1 else some ((0 : Int32), M))
set_option maxHeartbeats 4000000 in
set_option maxRecDepth 20000 in
theorem w_md_figures_L22 {z : ZT} {l : Launch} {g : GG} {b : Nat} (C : Cx z l g (wM b) (rmd 3) cX12_figures 5 RX12 (some .int)) (p1 : Int32) (p2 : Int32) (y3 : Int32) {K : Int32 → Mem → Option (Int32 × Mem)} (hK : ∀ (x4 : Int32) (M : Mem) , XG z g (wM b) 5 (ZQ z g (wM b) finM) 0 0 93 [some (.ref ((wM b).2.2.2 + 0)), some (.int p1), some (.int p2), some (.int y3), some (.int x4)] [] M (K x4 M)) : ∀ (fu : Nat) (x4 : Int32) (M : Mem), XG z g (wM b) 5 (ZQ z g (wM b) finM) 0 0 22 [some (.ref ((wM b).2.2.2 + 0)), some (.int p1), some (.int p2), some (.int y3), some (.int x4)] [] M (md_figures_L22 p1 p2 y3 K fu x4 M) := by
  intro fu
  induction fu with
  | zero => intro x4 M; exact x_none
  | succ fu ih =>
    intro x4 M
    rw [md_figures_L22]
    refine x_aloadn C dX12_figures_22 rfl ?_
    refine x_getI C fl_X12_88 cl_11 nM0 kM0 fM0_9 dX12_figures_23 ?_
    refine x_aloadn C dX12_figures_26 rfl ?_
    refine x_getI C fl_X12_91 cl_11 nM0 kM0 fM0_8 dX12_figures_27 ?_
    refine x_icmpge C dX12_figures_30 (tgt := 93) (by decide) (fun _h => ?_) (fun _h => ?_)
    · exact x_wk (L' := [some (.ref ((wM b).2.2.2 + 0)), some (.int p1), some (.int p2), some (.int y3), some (.int x4)]) (And.intro rfl (And.intro rfl (And.intro rfl (And.intro rfl (And.intro rfl trivial))))) (hK (x4) (M))
    · refine x_aloadn C dX12_figures_33 rfl ?_
      refine x_aloadn C dX12_figures_34 rfl ?_
      refine x_getI C fl_X12_88 cl_11 nM0 kM0 fM0_9 dX12_figures_35 ?_
      refine x_Vi (st := []) C (c_md_letter  ((M 0 9)) M) lk_X12_94 nM0 kM0 ⟨_, _, rfl⟩ rfl rfl (Nat.le_of_ble_eq_true rfl) (rmok_d (by decide) (by decide)) ⟨Nat.zero_le _, Nat.zero_le _⟩ dX12_figures_38 (fun v2 => ?_)
      refine x_bipush C dX12_figures_41 (v := (48 : Int32)) (by decide) ?_
      refine x_bipush C dX12_figures_43 (v := (57 : Int32)) (by decide) ?_
      refine x_Si (st := []) C (c_md_isIn  (v2) ((48 : Int32)) ((57 : Int32)) M) lk_X12_62 rfl rfl (Nat.le_of_ble_eq_true rfl) (rmok_d (by decide) (by decide)) ⟨Nat.zero_le _, Nat.zero_le _⟩ dX12_figures_45 (fun v3 => ?_)
      refine x_ifeq C dX12_figures_48 (tgt := 93) (by decide) (fun _h => ?_) (fun _h => ?_)
      · exact x_wk (L' := [some (.ref ((wM b).2.2.2 + 0)), some (.int p1), some (.int p2), some (.int y3), some (.int x4)]) (And.intro rfl (And.intro rfl (And.intro rfl (And.intro rfl (And.intro rfl trivial))))) (hK (x4) (M))
      · refine x_aloadn C dX12_figures_51 rfl ?_
        refine x_getI C fl_X12_88 cl_11 nM0 kM0 fM0_9 dX12_figures_52 ?_
        refine x_iloadn C dX12_figures_55 (x := y3) rfl ?_
        refine x_isub C dX12_figures_56 ?_
        refine x_iconst C dX12_figures_57 (v := (4 : Int32)) (by decide) ?_
        refine x_icmpge C dX12_figures_58 (tgt := 93) (by decide) (fun _h => ?_) (fun _h => ?_)
        · exact x_wk (L' := [some (.ref ((wM b).2.2.2 + 0)), some (.int p1), some (.int p2), some (.int y3), some (.int x4)]) (And.intro rfl (And.intro rfl (And.intro rfl (And.intro rfl (And.intro rfl trivial))))) (hK (x4) (M))
        · refine x_bipush C dX12_figures_61 (v := (10 : Int32)) (by decide) ?_
          refine x_iload C dX12_figures_63 (x := x4) rfl ?_
          refine x_imul C dX12_figures_65 ?_
          refine x_aloadn C dX12_figures_66 rfl ?_
          refine x_aloadn C dX12_figures_67 rfl ?_
          refine x_getI C fl_X12_88 cl_11 nM0 kM0 fM0_9 dX12_figures_68 ?_
          refine x_Vi (st := [.int ((10 : Int32) * x4)]) C (c_md_letter  ((M 0 9)) M) lk_X12_94 nM0 kM0 ⟨_, _, rfl⟩ rfl rfl (Nat.le_of_ble_eq_true rfl) (rmok_d (by decide) (by decide)) ⟨Nat.zero_le _, Nat.zero_le _⟩ dX12_figures_71 (fun v4 => ?_)
          refine x_iadd C dX12_figures_74 ?_
          refine x_bipush C dX12_figures_75 (v := (48 : Int32)) (by decide) ?_
          refine x_isub C dX12_figures_77 ?_
          refine x_lti (fun v5 => ?_)
          refine x_istore C dX12_figures_78 (L' := [some (.ref ((wM b).2.2.2 + 0)), some (.int p1), some (.int p2), some (.int y3), some (.int v5)]) (ltb rfl) rfl ?_
          refine x_aloadn C dX12_figures_80 rfl ?_
          refine x_dup C dX12_figures_81 rfl ?_
          refine x_getI C fl_X12_88 cl_11 nM0 kM0 fM0_9 dX12_figures_82 ?_
          refine x_iconst C dX12_figures_85 (v := (1 : Int32)) (by decide) ?_
          refine x_iadd C dX12_figures_86 ?_
          refine x_putI C fl_X12_88 cl_11 fint_11_9 nM0 kM0 fM0_9 dX12_figures_87 ?_
          refine x_ltM (fun M6 => ?_)
          refine x_goto C dX12_figures_90 (tgt := 22) (by decide) ?_
          exact x_wk (L' := [some (.ref ((wM b).2.2.2 + 0)), some (.int p1), some (.int p2), some (.int y3), some (.int v5)]) (And.intro rfl (And.intro rfl (And.intro rfl (And.intro rfl (And.intro rfl trivial))))) (ih (v5) (M6))
set_option maxHeartbeats 4000000 in
set_option maxRecDepth 20000 in
theorem w_md_figures_J93 {z : ZT} {l : Launch} {g : GG} {b : Nat} (C : Cx z l g (wM b) (rmd 3) cX12_figures 5 RX12 (some .int)) (p1 : Int32) (p2 : Int32)  (x3 : Int32) (x4 : Int32) (M : Mem) : XG z g (wM b) 5 (ZQ z g (wM b) finM) 0 0 93 [some (.ref ((wM b).2.2.2 + 0)), some (.int p1), some (.int p2), some (.int x3), some (.int x4)] [] M (md_figures_J93 p1 p2 x3 x4 M) := by
  rw [md_figures_J93]
  refine x_aloadn C dX12_figures_93 rfl ?_
  refine x_getI C fl_X12_88 cl_11 nM0 kM0 fM0_9 dX12_figures_94 ?_
  refine x_iloadn C dX12_figures_97 (x := x3) rfl ?_
  refine x_icmpeq C dX12_figures_98 (tgt := 123) (by decide) (fun _h => ?_) (fun _h => ?_)
  · refine x_aloadn C dX12_figures_123 rfl ?_
    refine x_iloadn C dX12_figures_124 (x := x3) rfl ?_
    refine x_Vv (st := []) C (c_md_wrong  (x3) M) lk_X12_109 nM0 kM0 ⟨_, _, rfl⟩ rfl rfl (Nat.le_of_ble_eq_true rfl) (rmok_d (by decide) (by decide)) ⟨Nat.zero_le _, Nat.zero_le _⟩ dX12_figures_125 (fun M9 => ?_)
    refine x_iload C dX12_figures_128 (x := x4) rfl ?_
    exact x_iret C dX12_figures_130 rfl
  · refine x_aloadn C dX12_figures_101 rfl ?_
    refine x_getI C fl_X12_88 cl_11 nM0 kM0 fM0_9 dX12_figures_102 ?_
    refine x_iloadn C dX12_figures_105 (x := x3) rfl ?_
    refine x_isub C dX12_figures_106 ?_
    refine x_iconst C dX12_figures_107 (v := (3 : Int32)) (by decide) ?_
    refine x_icmpgt C dX12_figures_108 (tgt := 123) (by decide) (fun _h => ?_) (fun _h => ?_)
    · refine x_aloadn C dX12_figures_123 rfl ?_
      refine x_iloadn C dX12_figures_124 (x := x3) rfl ?_
      refine x_Vv (st := []) C (c_md_wrong  (x3) M) lk_X12_109 nM0 kM0 ⟨_, _, rfl⟩ rfl rfl (Nat.le_of_ble_eq_true rfl) (rmok_d (by decide) (by decide)) ⟨Nat.zero_le _, Nat.zero_le _⟩ dX12_figures_125 (fun M10 => ?_)
      refine x_iload C dX12_figures_128 (x := x4) rfl ?_
      exact x_iret C dX12_figures_130 rfl
    · refine x_iload C dX12_figures_111 (x := x4) rfl ?_
      refine x_iloadn C dX12_figures_113 (x := p1) rfl ?_
      refine x_icmplt C dX12_figures_114 (tgt := 123) (by decide) (fun _h => ?_) (fun _h => ?_)
      · refine x_aloadn C dX12_figures_123 rfl ?_
        refine x_iloadn C dX12_figures_124 (x := x3) rfl ?_
        refine x_Vv (st := []) C (c_md_wrong  (x3) M) lk_X12_109 nM0 kM0 ⟨_, _, rfl⟩ rfl rfl (Nat.le_of_ble_eq_true rfl) (rmok_d (by decide) (by decide)) ⟨Nat.zero_le _, Nat.zero_le _⟩ dX12_figures_125 (fun M11 => ?_)
        refine x_iload C dX12_figures_128 (x := x4) rfl ?_
        exact x_iret C dX12_figures_130 rfl
      · refine x_iload C dX12_figures_117 (x := x4) rfl ?_
        refine x_iloadn C dX12_figures_119 (x := p2) rfl ?_
        refine x_icmple C dX12_figures_120 (tgt := 128) (by decide) (fun _h => ?_) (fun _h => ?_)
        · refine x_iload C dX12_figures_128 (x := x4) rfl ?_
          exact x_iret C dX12_figures_130 rfl
        · refine x_aloadn C dX12_figures_123 rfl ?_
          refine x_iloadn C dX12_figures_124 (x := x3) rfl ?_
          refine x_Vv (st := []) C (c_md_wrong  (x3) M) lk_X12_109 nM0 kM0 ⟨_, _, rfl⟩ rfl rfl (Nat.le_of_ble_eq_true rfl) (rmok_d (by decide) (by decide)) ⟨Nat.zero_le _, Nat.zero_le _⟩ dX12_figures_125 (fun M12 => ?_)
          refine x_iload C dX12_figures_128 (x := x4) rfl ?_
          exact x_iret C dX12_figures_130 rfl
set_option maxHeartbeats 4000000 in
set_option maxRecDepth 20000 in
theorem c_md_figures {l : Launch} {g : GG} {b : Nat} (p1 : Int32) (p2 : Int32) (M : Mem) : CT l g (wM b) (rmd 3) yX12_figures cX12_figures 5 (some .int) [.ref ((wM b).2.2.2 + 0), .int p1, .int p2] M finM (md_figures p1 p2 M) := by
  refine CT.of rfl (Nat.le_of_ble_eq_true rfl) (catc rfl (catc rfl (catc rfl cat0))) (fun z C => ?_)
  have C : Cx z l g (wM b) (rmd 3) cX12_figures 5 RX12 (some .int) := C
  refine x_wk (L' := [some (.ref ((wM b).2.2.2 + 0)), some (.int p1), some (.int p2), none, none]) (And.intro rfl (And.intro rfl (And.intro rfl trivial))) ?_
  rw [md_figures]
  refine x_aloadn C dX12_figures_0 rfl ?_
  refine x_getI C fl_X12_22 cl_11 nM0 kM0 fM0_10 dX12_figures_1 ?_
  refine x_iconst C dX12_figures_4 (v := (-1 : Int32)) (by decide) ?_
  refine x_icmpeq C dX12_figures_5 (tgt := 10) (by decide) (fun _h => ?_) (fun _h => ?_)
  · refine x_aloadn C dX12_figures_10 rfl ?_
    refine x_Vv (st := []) C (c_md_skip   M) lk_X12_97 nM0 kM0 ⟨_, _, rfl⟩ rfl rfl (Nat.le_of_ble_eq_true rfl) (rmok_d (by decide) (by decide)) ⟨Nat.zero_le _, Nat.zero_le _⟩ dX12_figures_11 (fun M1 => ?_)
    refine x_aloadn C dX12_figures_14 rfl ?_
    refine x_getI C fl_X12_88 cl_11 nM0 kM0 fM0_9 dX12_figures_15 ?_
    refine x_istoren C dX12_figures_18 (L' := [some (.ref ((wM b).2.2.2 + 0)), some (.int p1), some (.int p2), some (.int (M1 0 9)), none]) (ltb rfl) rfl ?_
    refine x_iconst C dX12_figures_19 (v := (0 : Int32)) (by decide) ?_
    refine x_istore C dX12_figures_20 (L' := [some (.ref ((wM b).2.2.2 + 0)), some (.int p1), some (.int p2), some (.int (M1 0 9)), some (.int (0 : Int32))]) (ltb rfl) rfl ?_
    refine x_wk (L' := [some (.ref ((wM b).2.2.2 + 0)), some (.int p1), some (.int p2), some (.int (M1 0 9)), some (.int (0 : Int32))]) (And.intro rfl (And.intro rfl (And.intro rfl (And.intro rfl (And.intro rfl trivial))))) (w_md_figures_L22 C p1 p2 ((M1 0 9))  (fun v4_6 M8 => ?_) FU ((0 : Int32)) M1)
    exact x_wk (L' := [some (.ref ((wM b).2.2.2 + 0)), some (.int p1), some (.int p2), some (.int (M1 0 9)), some (.int v4_6)]) (And.intro rfl (And.intro rfl (And.intro rfl (And.intro rfl (And.intro rfl trivial))))) (w_md_figures_J93 C p1 p2  ((M1 0 9)) (v4_6)  M8)
  · refine x_iconst C dX12_figures_8 (v := (0 : Int32)) (by decide) ?_
    exact x_iret C dX12_figures_9 rfl
def md_being (p1 : Int32) (p2 : Int32) (M : Mem) : Option (Int32 × Mem) := (if (M 0 10) = (-1 : Int32) then (md_skip M).bind fun M1 => bnd2 (md_figures ((0 : Int32)) (((M1 1 1) - (1 : Int32))) M1) fun v3 M2 => (if (M2 0 10) = (-1 : Int32) then (if v3 = p1 then (md_wrong ((M1 0 9)) M2).bind fun M4 => some (v3, M4) else (if v3 = p2 then (md_wrong ((M1 0 9)) M2).bind fun M5 => some (v3, M5) else some (v3, M2))) else some (v3, M2)) else some ((0 : Int32), M))
set_option maxHeartbeats 4000000 in
set_option maxRecDepth 20000 in
theorem c_md_being {l : Launch} {g : GG} {b : Nat} (p1 : Int32) (p2 : Int32) (M : Mem) : CT l g (wM b) (rmd 4) yX12_being cX12_being 5 (some .int) [.ref ((wM b).2.2.2 + 0), .int p1, .int p2] M finM (md_being p1 p2 M) := by
  refine CT.of rfl (Nat.le_of_ble_eq_true rfl) (catc rfl (catc rfl (catc rfl cat0))) (fun z C => ?_)
  have C : Cx z l g (wM b) (rmd 4) cX12_being 5 RX12 (some .int) := C
  refine x_wk (L' := [some (.ref ((wM b).2.2.2 + 0)), some (.int p1), some (.int p2), none, none]) (And.intro rfl (And.intro rfl (And.intro rfl trivial))) ?_
  rw [md_being]
  refine x_aloadn C dX12_being_0 rfl ?_
  refine x_getI C fl_X12_22 cl_11 nM0 kM0 fM0_10 dX12_being_1 ?_
  refine x_iconst C dX12_being_4 (v := (-1 : Int32)) (by decide) ?_
  refine x_icmpeq C dX12_being_5 (tgt := 10) (by decide) (fun _h => ?_) (fun _h => ?_)
  · refine x_aloadn C dX12_being_10 rfl ?_
    refine x_Vv (st := []) C (c_md_skip   M) lk_X12_97 nM0 kM0 ⟨_, _, rfl⟩ rfl rfl (Nat.le_of_ble_eq_true rfl) (rmok_d (by decide) (by decide)) ⟨Nat.zero_le _, Nat.zero_le _⟩ dX12_being_11 (fun M1 => ?_)
    refine x_aloadn C dX12_being_14 rfl ?_
    refine x_getI C fl_X12_88 cl_11 nM0 kM0 fM0_9 dX12_being_15 ?_
    refine x_istoren C dX12_being_18 (L' := [some (.ref ((wM b).2.2.2 + 0)), some (.int p1), some (.int p2), some (.int (M1 0 9)), none]) (ltb rfl) rfl ?_
    refine x_aloadn C dX12_being_19 rfl ?_
    refine x_iconst C dX12_being_20 (v := (0 : Int32)) (by decide) ?_
    refine x_aloadn C dX12_being_21 rfl ?_
    refine x_getR C fl_X12_7 cl_11 (1) nM0 kM0 fM0_1 dX12_being_22 ?_
    refine x_iconst C dX12_being_25 (v := (1 : Int32)) (by decide) ?_
    refine x_ialdj C nM1 kM1 (j := 1) (by decide) (by decide) dX12_being_26 ?_
    refine x_iconst C dX12_being_27 (v := (1 : Int32)) (by decide) ?_
    refine x_isub C dX12_being_28 ?_
    refine x_Vm (st := []) C (c_md_figures  ((0 : Int32)) (((M1 1 1) - (1 : Int32))) M1) lk_X12_113 nM0 kM0 ⟨_, _, rfl⟩ rfl rfl (Nat.le_of_ble_eq_true rfl) (rmok_d (by decide) (by decide)) ⟨Nat.zero_le _, Nat.zero_le _⟩ dX12_being_29 (fun v3 M2 => ?_)
    refine x_istore C dX12_being_32 (L' := [some (.ref ((wM b).2.2.2 + 0)), some (.int p1), some (.int p2), some (.int (M1 0 9)), some (.int v3)]) (ltb rfl) rfl ?_
    refine x_aloadn C dX12_being_34 rfl ?_
    refine x_getI C fl_X12_22 cl_11 nM0 kM0 fM0_10 dX12_being_35 ?_
    refine x_iconst C dX12_being_38 (v := (-1 : Int32)) (by decide) ?_
    refine x_icmpne C dX12_being_39 (tgt := 59) (by decide) (fun _h => ?_) (fun _h => ?_)
    · refine x_iload C dX12_being_59 (x := v3) rfl ?_
      exact x_iret C dX12_being_61 rfl
    · refine x_iload C dX12_being_42 (x := v3) rfl ?_
      refine x_iloadn C dX12_being_44 (x := p1) rfl ?_
      refine x_icmpeq C dX12_being_45 (tgt := 54) (by decide) (fun _h => ?_) (fun _h => ?_)
      · refine x_aloadn C dX12_being_54 rfl ?_
        refine x_iloadn C dX12_being_55 (x := (M1 0 9)) rfl ?_
        refine x_Vv (st := []) C (c_md_wrong  ((M1 0 9)) M2) lk_X12_109 nM0 kM0 ⟨_, _, rfl⟩ rfl rfl (Nat.le_of_ble_eq_true rfl) (rmok_d (by decide) (by decide)) ⟨Nat.zero_le _, Nat.zero_le _⟩ dX12_being_56 (fun M4 => ?_)
        refine x_iload C dX12_being_59 (x := v3) rfl ?_
        exact x_iret C dX12_being_61 rfl
      · refine x_iload C dX12_being_48 (x := v3) rfl ?_
        refine x_iloadn C dX12_being_50 (x := p2) rfl ?_
        refine x_icmpne C dX12_being_51 (tgt := 59) (by decide) (fun _h => ?_) (fun _h => ?_)
        · refine x_iload C dX12_being_59 (x := v3) rfl ?_
          exact x_iret C dX12_being_61 rfl
        · refine x_aloadn C dX12_being_54 rfl ?_
          refine x_iloadn C dX12_being_55 (x := (M1 0 9)) rfl ?_
          refine x_Vv (st := []) C (c_md_wrong  ((M1 0 9)) M2) lk_X12_109 nM0 kM0 ⟨_, _, rfl⟩ rfl rfl (Nat.le_of_ble_eq_true rfl) (rmok_d (by decide) (by decide)) ⟨Nat.zero_le _, Nat.zero_le _⟩ dX12_being_56 (fun M5 => ?_)
          refine x_iload C dX12_being_59 (x := v3) rfl ?_
          exact x_iret C dX12_being_61 rfl
  · refine x_iconst C dX12_being_8 (v := (0 : Int32)) (by decide) ?_
    exact x_iret C dX12_being_9 rfl
def md_comes_J142 (p1 : Int32) (p2 : Int32) (x6 : Int32) (s0 : Int32) (s1 : Int32) (M : Mem) : Option Mem := chk (inb s1 648) (lt1 (wr M 1 s1.toNatClampNeg s0) fun M6 => chk (inb (x6 + (4 : Int32)) 648) (lt1 (wr M6 1 (x6 + (4 : Int32)).toNatClampNeg (0 : Int32)) fun M7 => lt1 (wr M7 1 1 ((M7 1 1) + (1 : Int32))) fun M8 => some M8))
def md_comes_J69 (p1 : Int32) (p2 : Int32) (x3 : Int32) (x4 : Int32) (s0 : Int32) (M : Mem) : Option Mem := (if (M 0 10) = (-1 : Int32) then chk (inb (((38 : Int32) + ((5 : Int32) * (M 1 1))) + (0 : Int32)) 648) (lt1 (wr M 1 (((38 : Int32) + ((5 : Int32) * (M 1 1))) + (0 : Int32)).toNatClampNeg p1) fun M3 => chk (inb (((38 : Int32) + ((5 : Int32) * (M 1 1))) + (1 : Int32)) 648) (lt1 (wr M3 1 (((38 : Int32) + ((5 : Int32) * (M 1 1))) + (1 : Int32)).toNatClampNeg x3) fun M4 => chk (inb (((38 : Int32) + ((5 : Int32) * (M 1 1))) + (2 : Int32)) 648) (lt1 (wr M4 1 (((38 : Int32) + ((5 : Int32) * (M 1 1))) + (2 : Int32)).toNatClampNeg x4) fun M5 => (if s0 = 0 then md_comes_J142 p1 p2 (((38 : Int32) + ((5 : Int32) * (M 1 1)))) ((0 : Int32)) ((((38 : Int32) + ((5 : Int32) * (M 1 1))) + (3 : Int32))) M5 else md_comes_J142 p1 p2 (((38 : Int32) + ((5 : Int32) * (M 1 1)))) ((1 : Int32)) ((((38 : Int32) + ((5 : Int32) * (M 1 1))) + (3 : Int32))) M5)))) else some M)
def md_comes_J68 (p1 : Int32) (p2 : Int32) (x3 : Int32) (x4 : Int32) (M : Mem) : Option Mem := md_comes_J69 p1 p2 (x3) (x4) ((0 : Int32)) M
def md_comes_J32 (p1 : Int32) (p2 : Int32) (s0 : Int32) (M : Mem) : Option Mem := bnd2 (md_figures ((1 : Int32)) ((99 : Int32)) M) fun v2 M1 => (if (M1 0 10) = (-1 : Int32) then (if p1 < (2 : Int32) then bnd2 (md_has 20 M1) fun v10 M9 => (if v10 = 0 then md_comes_J68 p1 p2 (s0) (v2) M9 else md_comes_J69 p1 p2 (s0) (v2) ((1 : Int32)) M9) else md_comes_J68 p1 p2 (s0) (v2) M1) else md_comes_J68 p1 p2 (s0) (v2) M1)
def md_comes_J16 (p1 : Int32) (p2 : Int32) (M : Mem) : Option Mem := (if p1 < (2 : Int32) then bnd2 (md_figures ((0 : Int32)) ((9 : Int32)) M) fun v12 M11 => md_comes_J32 p1 p2 (v12) M11 else md_comes_J32 p1 p2 ((0 : Int32)) M)
def md_comes (p1 : Int32) (p2 : Int32) (M : Mem) : Option Mem := (if (M 1 1) = (10 : Int32) then (md_wrong (p2) M).bind fun M13 => md_comes_J16 p1 p2 M13 else md_comes_J16 p1 p2 M)
set_option maxHeartbeats 4000000 in
set_option maxRecDepth 20000 in
theorem w_md_comes_J142 {z : ZT} {l : Launch} {g : GG} {b : Nat} (C : Cx z l g (wM b) (rmd 7) cX12_comes 7 RX12 none) (p1 : Int32) (p2 : Int32)  (x6 : Int32) (s0 : Int32) (s1 : Int32) (M : Mem) : XG z g (wM b) 7 (ZQ z g (wM b) finV) 0 0 142 [some (.ref ((wM b).2.2.2 + 0)), none, none, none, none, none, some (.int x6)] [.int s0, .int s1, .ref ((wM b).2.2.2 + 1)] M (md_comes_J142 p1 p2 x6 s0 s1 M) := by
  rw [md_comes_J142]
  refine x_iast C nM1 kM1 dX12_comes_142 ?_
  refine x_ltM (fun M6 => ?_)
  refine x_aloadn C dX12_comes_143 rfl ?_
  refine x_getR C fl_X12_7 cl_11 (1) nM0 kM0 fM0_1 dX12_comes_144 ?_
  refine x_iload C dX12_comes_147 (x := x6) rfl ?_
  refine x_iconst C dX12_comes_149 (v := (4 : Int32)) (by decide) ?_
  refine x_iadd C dX12_comes_150 ?_
  refine x_iconst C dX12_comes_151 (v := (0 : Int32)) (by decide) ?_
  refine x_iast C nM1 kM1 dX12_comes_152 ?_
  refine x_ltM (fun M7 => ?_)
  refine x_aloadn C dX12_comes_153 rfl ?_
  refine x_getR C fl_X12_7 cl_11 (1) nM0 kM0 fM0_1 dX12_comes_154 ?_
  refine x_iconst C dX12_comes_157 (v := (1 : Int32)) (by decide) ?_
  refine x_dup2 C dX12_comes_158 rfl rfl ?_
  refine x_ialdj C nM1 kM1 (j := 1) (by decide) (by decide) dX12_comes_159 ?_
  refine x_iconst C dX12_comes_160 (v := (1 : Int32)) (by decide) ?_
  refine x_iadd C dX12_comes_161 ?_
  refine x_iastj C nM1 kM1 (j := 1) (by decide) (by decide) dX12_comes_162 ?_
  refine x_ltM (fun M8 => ?_)
  exact x_vret C dX12_comes_163 rfl
set_option maxHeartbeats 4000000 in
set_option maxRecDepth 20000 in
theorem w_md_comes_J69 {z : ZT} {l : Launch} {g : GG} {b : Nat} (C : Cx z l g (wM b) (rmd 7) cX12_comes 7 RX12 none) (p1 : Int32) (p2 : Int32)  (x3 : Int32) (x4 : Int32) (s0 : Int32) (M : Mem) : XG z g (wM b) 7 (ZQ z g (wM b) finV) 0 0 69 [some (.ref ((wM b).2.2.2 + 0)), some (.int p1), none, some (.int x3), some (.int x4), none, none] [.int s0] M (md_comes_J69 p1 p2 x3 x4 s0 M) := by
  rw [md_comes_J69]
  refine x_istore C dX12_comes_69 (L' := [some (.ref ((wM b).2.2.2 + 0)), some (.int p1), none, some (.int x3), some (.int x4), some (.int s0), none]) (ltb rfl) rfl ?_
  refine x_aloadn C dX12_comes_71 rfl ?_
  refine x_getI C fl_X12_22 cl_11 nM0 kM0 fM0_10 dX12_comes_72 ?_
  refine x_iconst C dX12_comes_75 (v := (-1 : Int32)) (by decide) ?_
  refine x_icmpeq C dX12_comes_76 (tgt := 80) (by decide) (fun _h => ?_) (fun _h => ?_)
  · refine x_bipush C dX12_comes_80 (v := (38 : Int32)) (by decide) ?_
    refine x_iconst C dX12_comes_82 (v := (5 : Int32)) (by decide) ?_
    refine x_aloadn C dX12_comes_83 rfl ?_
    refine x_getR C fl_X12_7 cl_11 (1) nM0 kM0 fM0_1 dX12_comes_84 ?_
    refine x_iconst C dX12_comes_87 (v := (1 : Int32)) (by decide) ?_
    refine x_ialdj C nM1 kM1 (j := 1) (by decide) (by decide) dX12_comes_88 ?_
    refine x_imul C dX12_comes_89 ?_
    refine x_iadd C dX12_comes_90 ?_
    refine x_istore C dX12_comes_91 (L' := [some (.ref ((wM b).2.2.2 + 0)), some (.int p1), none, some (.int x3), some (.int x4), some (.int s0), some (.int ((38 : Int32) + ((5 : Int32) * (M 1 1))))]) (ltb rfl) rfl ?_
    refine x_aloadn C dX12_comes_93 rfl ?_
    refine x_getR C fl_X12_7 cl_11 (1) nM0 kM0 fM0_1 dX12_comes_94 ?_
    refine x_iload C dX12_comes_97 (x := ((38 : Int32) + ((5 : Int32) * (M 1 1)))) rfl ?_
    refine x_iconst C dX12_comes_99 (v := (0 : Int32)) (by decide) ?_
    refine x_iadd C dX12_comes_100 ?_
    refine x_iloadn C dX12_comes_101 (x := p1) rfl ?_
    refine x_iast C nM1 kM1 dX12_comes_102 ?_
    refine x_ltM (fun M3 => ?_)
    refine x_aloadn C dX12_comes_103 rfl ?_
    refine x_getR C fl_X12_7 cl_11 (1) nM0 kM0 fM0_1 dX12_comes_104 ?_
    refine x_iload C dX12_comes_107 (x := ((38 : Int32) + ((5 : Int32) * (M 1 1)))) rfl ?_
    refine x_iconst C dX12_comes_109 (v := (1 : Int32)) (by decide) ?_
    refine x_iadd C dX12_comes_110 ?_
    refine x_iloadn C dX12_comes_111 (x := x3) rfl ?_
    refine x_iast C nM1 kM1 dX12_comes_112 ?_
    refine x_ltM (fun M4 => ?_)
    refine x_aloadn C dX12_comes_113 rfl ?_
    refine x_getR C fl_X12_7 cl_11 (1) nM0 kM0 fM0_1 dX12_comes_114 ?_
    refine x_iload C dX12_comes_117 (x := ((38 : Int32) + ((5 : Int32) * (M 1 1)))) rfl ?_
    refine x_iconst C dX12_comes_119 (v := (2 : Int32)) (by decide) ?_
    refine x_iadd C dX12_comes_120 ?_
    refine x_iload C dX12_comes_121 (x := x4) rfl ?_
    refine x_iast C nM1 kM1 dX12_comes_123 ?_
    refine x_ltM (fun M5 => ?_)
    refine x_aloadn C dX12_comes_124 rfl ?_
    refine x_getR C fl_X12_7 cl_11 (1) nM0 kM0 fM0_1 dX12_comes_125 ?_
    refine x_iload C dX12_comes_128 (x := ((38 : Int32) + ((5 : Int32) * (M 1 1)))) rfl ?_
    refine x_iconst C dX12_comes_130 (v := (3 : Int32)) (by decide) ?_
    refine x_iadd C dX12_comes_131 ?_
    refine x_iload C dX12_comes_132 (x := s0) rfl ?_
    refine x_ifeq C dX12_comes_134 (tgt := 141) (by decide) (fun _h => ?_) (fun _h => ?_)
    · refine x_iconst C dX12_comes_141 (v := (0 : Int32)) (by decide) ?_
      exact x_wk (L' := [some (.ref ((wM b).2.2.2 + 0)), none, none, none, none, none, some (.int ((38 : Int32) + ((5 : Int32) * (M 1 1))))]) (And.intro rfl (And.intro rfl trivial)) (w_md_comes_J142 C p1 p2  (((38 : Int32) + ((5 : Int32) * (M 1 1)))) ((0 : Int32)) ((((38 : Int32) + ((5 : Int32) * (M 1 1))) + (3 : Int32))) M5)
    · refine x_iconst C dX12_comes_137 (v := (1 : Int32)) (by decide) ?_
      refine x_goto C dX12_comes_138 (tgt := 142) (by decide) ?_
      exact x_wk (L' := [some (.ref ((wM b).2.2.2 + 0)), none, none, none, none, none, some (.int ((38 : Int32) + ((5 : Int32) * (M 1 1))))]) (And.intro rfl (And.intro rfl trivial)) (w_md_comes_J142 C p1 p2  (((38 : Int32) + ((5 : Int32) * (M 1 1)))) ((1 : Int32)) ((((38 : Int32) + ((5 : Int32) * (M 1 1))) + (3 : Int32))) M5)
  · exact x_vret C dX12_comes_79 rfl
set_option maxHeartbeats 4000000 in
set_option maxRecDepth 20000 in
theorem w_md_comes_J68 {z : ZT} {l : Launch} {g : GG} {b : Nat} (C : Cx z l g (wM b) (rmd 7) cX12_comes 7 RX12 none) (p1 : Int32) (p2 : Int32)  (x3 : Int32) (x4 : Int32) (M : Mem) : XG z g (wM b) 7 (ZQ z g (wM b) finV) 0 0 68 [some (.ref ((wM b).2.2.2 + 0)), some (.int p1), none, some (.int x3), some (.int x4), none, none] [] M (md_comes_J68 p1 p2 x3 x4 M) := by
  rw [md_comes_J68]
  refine x_iconst C dX12_comes_68 (v := (0 : Int32)) (by decide) ?_
  exact x_wk (L' := [some (.ref ((wM b).2.2.2 + 0)), some (.int p1), none, some (.int x3), some (.int x4), none, none]) (And.intro rfl (And.intro rfl (And.intro rfl (And.intro rfl trivial)))) (w_md_comes_J69 C p1 p2  (x3) (x4) ((0 : Int32)) M)
set_option maxHeartbeats 4000000 in
set_option maxRecDepth 20000 in
theorem w_md_comes_J32 {z : ZT} {l : Launch} {g : GG} {b : Nat} (C : Cx z l g (wM b) (rmd 7) cX12_comes 7 RX12 none) (p1 : Int32) (p2 : Int32)  (s0 : Int32) (M : Mem) : XG z g (wM b) 7 (ZQ z g (wM b) finV) 0 0 32 [some (.ref ((wM b).2.2.2 + 0)), some (.int p1), none, none, none, none, none] [.int s0] M (md_comes_J32 p1 p2 s0 M) := by
  rw [md_comes_J32]
  refine x_istoren C dX12_comes_32 (L' := [some (.ref ((wM b).2.2.2 + 0)), some (.int p1), none, some (.int s0), none, none, none]) (ltb rfl) rfl ?_
  refine x_aloadn C dX12_comes_33 rfl ?_
  refine x_iconst C dX12_comes_34 (v := (1 : Int32)) (by decide) ?_
  refine x_bipush C dX12_comes_35 (v := (99 : Int32)) (by decide) ?_
  refine x_Vm (st := []) C (c_md_figures  ((1 : Int32)) ((99 : Int32)) M) lk_X12_113 nM0 kM0 ⟨_, _, rfl⟩ rfl rfl (Nat.le_of_ble_eq_true rfl) (rmok_d (by decide) (by decide)) ⟨Nat.zero_le _, Nat.zero_le _⟩ dX12_comes_37 (fun v2 M1 => ?_)
  refine x_istore C dX12_comes_40 (L' := [some (.ref ((wM b).2.2.2 + 0)), some (.int p1), none, some (.int s0), some (.int v2), none, none]) (ltb rfl) rfl ?_
  refine x_aloadn C dX12_comes_42 rfl ?_
  refine x_getI C fl_X12_22 cl_11 nM0 kM0 fM0_10 dX12_comes_43 ?_
  refine x_iconst C dX12_comes_46 (v := (-1 : Int32)) (by decide) ?_
  refine x_icmpne C dX12_comes_47 (tgt := 68) (by decide) (fun _h => ?_) (fun _h => ?_)
  · exact x_wk (L' := [some (.ref ((wM b).2.2.2 + 0)), some (.int p1), none, some (.int s0), some (.int v2), none, none]) (And.intro rfl (And.intro rfl (And.intro rfl (And.intro rfl trivial)))) (w_md_comes_J68 C p1 p2  (s0) (v2)  M1)
  · refine x_iloadn C dX12_comes_50 (x := p1) rfl ?_
    refine x_iconst C dX12_comes_51 (v := (2 : Int32)) (by decide) ?_
    refine x_icmpge C dX12_comes_52 (tgt := 68) (by decide) (fun _h => ?_) (fun _h => ?_)
    · exact x_wk (L' := [some (.ref ((wM b).2.2.2 + 0)), some (.int p1), none, some (.int s0), some (.int v2), none, none]) (And.intro rfl (And.intro rfl (And.intro rfl (And.intro rfl trivial)))) (w_md_comes_J68 C p1 p2  (s0) (v2)  M1)
    · refine x_aloadn C dX12_comes_55 rfl ?_
      refine x_ldcS C (i := 20) rfl dX12_comes_56 ?_
      refine x_Vm (st := []) C (c_md_has (by decide)  M1) lk_X12_118 nM0 kM0 ⟨_, _, rfl⟩ rfl rfl (Nat.le_of_ble_eq_true rfl) (rmok_d (by decide) (by decide)) ⟨Nat.zero_le _, Nat.zero_le _⟩ dX12_comes_58 (fun v10 M9 => ?_)
      refine x_ifeq C dX12_comes_61 (tgt := 68) (by decide) (fun _h => ?_) (fun _h => ?_)
      · exact x_wk (L' := [some (.ref ((wM b).2.2.2 + 0)), some (.int p1), none, some (.int s0), some (.int v2), none, none]) (And.intro rfl (And.intro rfl (And.intro rfl (And.intro rfl trivial)))) (w_md_comes_J68 C p1 p2  (s0) (v2)  M9)
      · refine x_iconst C dX12_comes_64 (v := (1 : Int32)) (by decide) ?_
        refine x_goto C dX12_comes_65 (tgt := 69) (by decide) ?_
        exact x_wk (L' := [some (.ref ((wM b).2.2.2 + 0)), some (.int p1), none, some (.int s0), some (.int v2), none, none]) (And.intro rfl (And.intro rfl (And.intro rfl (And.intro rfl trivial)))) (w_md_comes_J69 C p1 p2  (s0) (v2) ((1 : Int32)) M9)
set_option maxHeartbeats 4000000 in
set_option maxRecDepth 20000 in
theorem w_md_comes_J16 {z : ZT} {l : Launch} {g : GG} {b : Nat} (C : Cx z l g (wM b) (rmd 7) cX12_comes 7 RX12 none) (p1 : Int32) (p2 : Int32)  (M : Mem) : XG z g (wM b) 7 (ZQ z g (wM b) finV) 0 0 16 [some (.ref ((wM b).2.2.2 + 0)), some (.int p1), none, none, none, none, none] [] M (md_comes_J16 p1 p2 M) := by
  rw [md_comes_J16]
  refine x_iloadn C dX12_comes_16 (x := p1) rfl ?_
  refine x_iconst C dX12_comes_17 (v := (2 : Int32)) (by decide) ?_
  refine x_icmpge C dX12_comes_18 (tgt := 31) (by decide) (fun _h => ?_) (fun _h => ?_)
  · refine x_iconst C dX12_comes_31 (v := (0 : Int32)) (by decide) ?_
    exact x_wk (L' := [some (.ref ((wM b).2.2.2 + 0)), some (.int p1), none, none, none, none, none]) (And.intro rfl (And.intro rfl trivial)) (w_md_comes_J32 C p1 p2   ((0 : Int32)) M)
  · refine x_aloadn C dX12_comes_21 rfl ?_
    refine x_iconst C dX12_comes_22 (v := (0 : Int32)) (by decide) ?_
    refine x_bipush C dX12_comes_23 (v := (9 : Int32)) (by decide) ?_
    refine x_Vm (st := []) C (c_md_figures  ((0 : Int32)) ((9 : Int32)) M) lk_X12_113 nM0 kM0 ⟨_, _, rfl⟩ rfl rfl (Nat.le_of_ble_eq_true rfl) (rmok_d (by decide) (by decide)) ⟨Nat.zero_le _, Nat.zero_le _⟩ dX12_comes_25 (fun v12 M11 => ?_)
    refine x_goto C dX12_comes_28 (tgt := 32) (by decide) ?_
    exact x_wk (L' := [some (.ref ((wM b).2.2.2 + 0)), some (.int p1), none, none, none, none, none]) (And.intro rfl (And.intro rfl trivial)) (w_md_comes_J32 C p1 p2   (v12) M11)
set_option maxHeartbeats 4000000 in
set_option maxRecDepth 20000 in
theorem c_md_comes {l : Launch} {g : GG} {b : Nat} (p1 : Int32) (p2 : Int32) (M : Mem) : CT l g (wM b) (rmd 7) yX12_comes cX12_comes 7 none [.ref ((wM b).2.2.2 + 0), .int p1, .int p2] M finV (md_comes p1 p2 M) := by
  refine CT.of rfl (Nat.le_of_ble_eq_true rfl) (catc rfl (catc rfl (catc rfl cat0))) (fun z C => ?_)
  have C : Cx z l g (wM b) (rmd 7) cX12_comes 7 RX12 none := C
  refine x_wk (L' := [some (.ref ((wM b).2.2.2 + 0)), some (.int p1), some (.int p2), none, none, none, none]) (And.intro rfl (And.intro rfl (And.intro rfl trivial))) ?_
  rw [md_comes]
  refine x_aloadn C dX12_comes_0 rfl ?_
  refine x_getR C fl_X12_7 cl_11 (1) nM0 kM0 fM0_1 dX12_comes_1 ?_
  refine x_iconst C dX12_comes_4 (v := (1 : Int32)) (by decide) ?_
  refine x_ialdj C nM1 kM1 (j := 1) (by decide) (by decide) dX12_comes_5 ?_
  refine x_bipush C dX12_comes_6 (v := (10 : Int32)) (by decide) ?_
  refine x_icmpne C dX12_comes_8 (tgt := 16) (by decide) (fun _h => ?_) (fun _h => ?_)
  · exact x_wk (L' := [some (.ref ((wM b).2.2.2 + 0)), some (.int p1), none, none, none, none, none]) (And.intro rfl (And.intro rfl trivial)) (w_md_comes_J16 C p1 p2    M)
  · refine x_aloadn C dX12_comes_11 rfl ?_
    refine x_iloadn C dX12_comes_12 (x := p2) rfl ?_
    refine x_Vv (st := []) C (c_md_wrong  (p2) M) lk_X12_109 nM0 kM0 ⟨_, _, rfl⟩ rfl rfl (Nat.le_of_ble_eq_true rfl) (rmok_d (by decide) (by decide)) ⟨Nat.zero_le _, Nat.zero_le _⟩ dX12_comes_13 (fun M13 => ?_)
    exact x_wk (L' := [some (.ref ((wM b).2.2.2 + 0)), some (.int p1), none, none, none, none, none]) (And.intro rfl (And.intro rfl trivial)) (w_md_comes_J16 C p1 p2    M13)
def md_riverLine_J399 (M : Mem) : Option Mem := bnd2 (md_being ((-1 : Int32)) ((-1 : Int32)) M) fun v24 M23 => bnd2 (md_being (v24) ((-1 : Int32)) M23) fun v26 M25 => (if (M25 0 10) = (-1 : Int32) then chk (inb ((124 : Int32) + ((2 : Int32) * (M25 1 13))) 648) (lt1 (wr M25 1 ((124 : Int32) + ((2 : Int32) * (M25 1 13))).toNatClampNeg v24) fun M27 => chk (inb (((124 : Int32) + ((2 : Int32) * (M27 1 13))) + (1 : Int32)) 648) (lt1 (wr M27 1 (((124 : Int32) + ((2 : Int32) * (M27 1 13))) + (1 : Int32)).toNatClampNeg v26) fun M28 => lt1 (wr M28 1 13 ((M28 1 13) + (1 : Int32))) fun M29 => some M29)) else some M25)
def md_riverLine_J289 (x2 : Int32) (x3 : Int32) (s0 : Int32) (M : Mem) : Option Mem := (if (M 0 10) = (-1 : Int32) then chk (inb ((88 : Int32) + ((3 : Int32) * (M 1 12))) 648) (lt1 (wr M 1 ((88 : Int32) + ((3 : Int32) * (M 1 12))).toNatClampNeg x2) fun M35 => chk (inb (((88 : Int32) + ((3 : Int32) * (M35 1 12))) + (1 : Int32)) 648) (lt1 (wr M35 1 (((88 : Int32) + ((3 : Int32) * (M35 1 12))) + (1 : Int32)).toNatClampNeg x3) fun M36 => chk (inb (((88 : Int32) + ((3 : Int32) * (M36 1 12))) + (2 : Int32)) 648) (lt1 (wr M36 1 (((88 : Int32) + ((3 : Int32) * (M36 1 12))) + (2 : Int32)).toNatClampNeg s0) fun M37 => lt1 (wr M37 1 12 ((M37 1 12) + (1 : Int32))) fun M38 => some M38))) else some M)
def md_riverLine_J288 (x2 : Int32) (x3 : Int32) (M : Mem) : Option Mem := md_riverLine_J289 (x2) (x3) ((-1 : Int32)) M
def md_riverLine_J248 (M : Mem) : Option Mem := bnd2 (md_being ((-1 : Int32)) ((-1 : Int32)) M) fun v32 M31 => bnd2 (md_being (v32) ((-1 : Int32)) M31) fun v34 M33 => (if (M33 0 10) = (-1 : Int32) then bnd2 (md_has 29 M33) fun v40 M39 => (if v40 = 0 then md_riverLine_J288 (v32) (v34) M39 else bnd2 (md_being (v32) (v34) M39) fun v42 M41 => md_riverLine_J289 (v32) (v34) (v42) M41) else md_riverLine_J288 (v32) (v34) M33)
def md_riverLine_L187 (y3 : Int32) (K : Mem → Option Mem) : Nat → Int32 → Mem → Option Mem
  | 0, _, _ => none
  | fu + 1, x4, M => (if x4 < (24 : Int32) then (if (M 0 10) = (-1 : Int32) then chk (inb ((14 : Int32) + x4) 648) (lt1 (wr M 1 ((14 : Int32) + x4).toNatClampNeg y3) fun M48 => md_riverLine_L187 y3 K fu ((x4 + (1 : Int32))) (M48)) else K (M)) else K (M))
def md_riverLine (M : Mem) : Option Mem := (md_skip M).bind fun M1 => bnd2 (md_has 19 M1) fun v3 M2 => (if v3 = 0 then bnd2 (md_has 21 M2) fun v5 M4 => (if v5 = 0 then bnd2 (md_has 22 M4) fun v7 M6 => (if v7 = 0 then bnd2 (md_has 23 M6) fun v9 M8 => (if v9 = 0 then bnd2 (md_has 24 M8) fun v11 M10 => (if v11 = 0 then bnd2 (md_has 25 M10) fun v13 M12 => (if v13 = 0 then bnd2 (md_has 26 M12) fun v15 M14 => (if v15 = 0 then bnd2 (md_has 27 M14) fun v17 M16 => (if v17 = 0 then bnd2 (md_has 28 M16) fun v19 M18 => (if v19 = 0 then bnd2 (md_has 30 M18) fun v21 M20 => (if v21 = 0 then (md_wrong ((M20 0 9)) M20).bind fun M22 => some M22 else (if (M20 1 13) = (12 : Int32) then (md_wrong ((M1 0 9)) M20).bind fun M30 => md_riverLine_J399 M30 else md_riverLine_J399 M20)) else (if (M18 1 12) = (12 : Int32) then (md_wrong ((M1 0 9)) M18).bind fun M43 => md_riverLine_J248 M43 else md_riverLine_J248 M18)) else bnd2 (md_figures ((0 : Int32)) ((23 : Int32)) M16) fun v45 M44 => bnd2 (md_figures ((0 : Int32)) ((9 : Int32)) M44) fun v47 M46 => md_riverLine_L187 (v47) (fun M50 => some M50) FU (v45) M46) else bnd2 (md_figures ((1 : Int32)) ((60 : Int32)) M14) fun v52 M51 => lt1 (wr M51 1 7 v52) fun M53 => some M53) else bnd2 (md_figures ((0 : Int32)) ((99 : Int32)) M12) fun v55 M54 => lt1 (wr M54 1 6 v55) fun M56 => some M56) else bnd2 (md_figures ((1 : Int32)) ((999 : Int32)) M10) fun v58 M57 => lt1 (wr M57 1 5 v58) fun M59 => some M59) else (md_comes ((3 : Int32)) ((M1 0 9)) M8).bind fun M60 => some M60) else (md_comes ((2 : Int32)) ((M1 0 9)) M6).bind fun M61 => some M61) else (md_comes ((1 : Int32)) ((M1 0 9)) M4).bind fun M62 => some M62) else (md_comes ((0 : Int32)) ((M1 0 9)) M2).bind fun M63 => some M63)
set_option maxHeartbeats 4000000 in
set_option maxRecDepth 20000 in
theorem w_md_riverLine_J399 {z : ZT} {l : Launch} {g : GG} {b : Nat} (C : Cx z l g (wM b) (rmd 8) cX12_riverLine 5 RX12 none)   (M : Mem) : XG z g (wM b) 5 (ZQ z g (wM b) finV) 0 0 399 [some (.ref ((wM b).2.2.2 + 0)), none, none, none, none] [] M (md_riverLine_J399 M) := by
  rw [md_riverLine_J399]
  refine x_aloadn C dX12_riverLine_399 rfl ?_
  refine x_iconst C dX12_riverLine_400 (v := (-1 : Int32)) (by decide) ?_
  refine x_iconst C dX12_riverLine_401 (v := (-1 : Int32)) (by decide) ?_
  refine x_Vm (st := []) C (c_md_being  ((-1 : Int32)) ((-1 : Int32)) M) lk_X12_143 nM0 kM0 ⟨_, _, rfl⟩ rfl rfl (Nat.le_of_ble_eq_true rfl) (rmok_d (by decide) (by decide)) ⟨Nat.zero_le _, Nat.zero_le _⟩ dX12_riverLine_402 (fun v24 M23 => ?_)
  refine x_istoren C dX12_riverLine_405 (L' := [some (.ref ((wM b).2.2.2 + 0)), none, some (.int v24), none, none]) (ltb rfl) rfl ?_
  refine x_aloadn C dX12_riverLine_406 rfl ?_
  refine x_iloadn C dX12_riverLine_407 (x := v24) rfl ?_
  refine x_iconst C dX12_riverLine_408 (v := (-1 : Int32)) (by decide) ?_
  refine x_Vm (st := []) C (c_md_being  (v24) ((-1 : Int32)) M23) lk_X12_143 nM0 kM0 ⟨_, _, rfl⟩ rfl rfl (Nat.le_of_ble_eq_true rfl) (rmok_d (by decide) (by decide)) ⟨Nat.zero_le _, Nat.zero_le _⟩ dX12_riverLine_409 (fun v26 M25 => ?_)
  refine x_istoren C dX12_riverLine_412 (L' := [some (.ref ((wM b).2.2.2 + 0)), none, some (.int v24), some (.int v26), none]) (ltb rfl) rfl ?_
  refine x_aloadn C dX12_riverLine_413 rfl ?_
  refine x_getI C fl_X12_22 cl_11 nM0 kM0 fM0_10 dX12_riverLine_414 ?_
  refine x_iconst C dX12_riverLine_417 (v := (-1 : Int32)) (by decide) ?_
  refine x_icmpeq C dX12_riverLine_418 (tgt := 422) (by decide) (fun _h => ?_) (fun _h => ?_)
  · refine x_aloadn C dX12_riverLine_422 rfl ?_
    refine x_getR C fl_X12_7 cl_11 (1) nM0 kM0 fM0_1 dX12_riverLine_423 ?_
    refine x_bipush C dX12_riverLine_426 (v := (124 : Int32)) (by decide) ?_
    refine x_iconst C dX12_riverLine_428 (v := (2 : Int32)) (by decide) ?_
    refine x_aloadn C dX12_riverLine_429 rfl ?_
    refine x_getR C fl_X12_7 cl_11 (1) nM0 kM0 fM0_1 dX12_riverLine_430 ?_
    refine x_bipush C dX12_riverLine_433 (v := (13 : Int32)) (by decide) ?_
    refine x_ialdj C nM1 kM1 (j := 13) (by decide) (by decide) dX12_riverLine_435 ?_
    refine x_imul C dX12_riverLine_436 ?_
    refine x_iadd C dX12_riverLine_437 ?_
    refine x_iloadn C dX12_riverLine_438 (x := v24) rfl ?_
    refine x_iast C nM1 kM1 dX12_riverLine_439 ?_
    refine x_ltM (fun M27 => ?_)
    refine x_aloadn C dX12_riverLine_440 rfl ?_
    refine x_getR C fl_X12_7 cl_11 (1) nM0 kM0 fM0_1 dX12_riverLine_441 ?_
    refine x_bipush C dX12_riverLine_444 (v := (124 : Int32)) (by decide) ?_
    refine x_iconst C dX12_riverLine_446 (v := (2 : Int32)) (by decide) ?_
    refine x_aloadn C dX12_riverLine_447 rfl ?_
    refine x_getR C fl_X12_7 cl_11 (1) nM0 kM0 fM0_1 dX12_riverLine_448 ?_
    refine x_bipush C dX12_riverLine_451 (v := (13 : Int32)) (by decide) ?_
    refine x_ialdj C nM1 kM1 (j := 13) (by decide) (by decide) dX12_riverLine_453 ?_
    refine x_imul C dX12_riverLine_454 ?_
    refine x_iadd C dX12_riverLine_455 ?_
    refine x_iconst C dX12_riverLine_456 (v := (1 : Int32)) (by decide) ?_
    refine x_iadd C dX12_riverLine_457 ?_
    refine x_iloadn C dX12_riverLine_458 (x := v26) rfl ?_
    refine x_iast C nM1 kM1 dX12_riverLine_459 ?_
    refine x_ltM (fun M28 => ?_)
    refine x_aloadn C dX12_riverLine_460 rfl ?_
    refine x_getR C fl_X12_7 cl_11 (1) nM0 kM0 fM0_1 dX12_riverLine_461 ?_
    refine x_bipush C dX12_riverLine_464 (v := (13 : Int32)) (by decide) ?_
    refine x_dup2 C dX12_riverLine_466 rfl rfl ?_
    refine x_ialdj C nM1 kM1 (j := 13) (by decide) (by decide) dX12_riverLine_467 ?_
    refine x_iconst C dX12_riverLine_468 (v := (1 : Int32)) (by decide) ?_
    refine x_iadd C dX12_riverLine_469 ?_
    refine x_iastj C nM1 kM1 (j := 13) (by decide) (by decide) dX12_riverLine_470 ?_
    refine x_ltM (fun M29 => ?_)
    refine x_goto C dX12_riverLine_471 (tgt := 482) (by decide) ?_
    exact x_vret C dX12_riverLine_482 rfl
  · exact x_vret C dX12_riverLine_421 rfl
set_option maxHeartbeats 4000000 in
set_option maxRecDepth 20000 in
theorem w_md_riverLine_J289 {z : ZT} {l : Launch} {g : GG} {b : Nat} (C : Cx z l g (wM b) (rmd 8) cX12_riverLine 5 RX12 none)   (x2 : Int32) (x3 : Int32) (s0 : Int32) (M : Mem) : XG z g (wM b) 5 (ZQ z g (wM b) finV) 0 0 289 [some (.ref ((wM b).2.2.2 + 0)), none, some (.int x2), some (.int x3), none] [.int s0] M (md_riverLine_J289 x2 x3 s0 M) := by
  rw [md_riverLine_J289]
  refine x_istore C dX12_riverLine_289 (L' := [some (.ref ((wM b).2.2.2 + 0)), none, some (.int x2), some (.int x3), some (.int s0)]) (ltb rfl) rfl ?_
  refine x_aloadn C dX12_riverLine_291 rfl ?_
  refine x_getI C fl_X12_22 cl_11 nM0 kM0 fM0_10 dX12_riverLine_292 ?_
  refine x_iconst C dX12_riverLine_295 (v := (-1 : Int32)) (by decide) ?_
  refine x_icmpeq C dX12_riverLine_296 (tgt := 300) (by decide) (fun _h => ?_) (fun _h => ?_)
  · refine x_aloadn C dX12_riverLine_300 rfl ?_
    refine x_getR C fl_X12_7 cl_11 (1) nM0 kM0 fM0_1 dX12_riverLine_301 ?_
    refine x_bipush C dX12_riverLine_304 (v := (88 : Int32)) (by decide) ?_
    refine x_iconst C dX12_riverLine_306 (v := (3 : Int32)) (by decide) ?_
    refine x_aloadn C dX12_riverLine_307 rfl ?_
    refine x_getR C fl_X12_7 cl_11 (1) nM0 kM0 fM0_1 dX12_riverLine_308 ?_
    refine x_bipush C dX12_riverLine_311 (v := (12 : Int32)) (by decide) ?_
    refine x_ialdj C nM1 kM1 (j := 12) (by decide) (by decide) dX12_riverLine_313 ?_
    refine x_imul C dX12_riverLine_314 ?_
    refine x_iadd C dX12_riverLine_315 ?_
    refine x_iloadn C dX12_riverLine_316 (x := x2) rfl ?_
    refine x_iast C nM1 kM1 dX12_riverLine_317 ?_
    refine x_ltM (fun M35 => ?_)
    refine x_aloadn C dX12_riverLine_318 rfl ?_
    refine x_getR C fl_X12_7 cl_11 (1) nM0 kM0 fM0_1 dX12_riverLine_319 ?_
    refine x_bipush C dX12_riverLine_322 (v := (88 : Int32)) (by decide) ?_
    refine x_iconst C dX12_riverLine_324 (v := (3 : Int32)) (by decide) ?_
    refine x_aloadn C dX12_riverLine_325 rfl ?_
    refine x_getR C fl_X12_7 cl_11 (1) nM0 kM0 fM0_1 dX12_riverLine_326 ?_
    refine x_bipush C dX12_riverLine_329 (v := (12 : Int32)) (by decide) ?_
    refine x_ialdj C nM1 kM1 (j := 12) (by decide) (by decide) dX12_riverLine_331 ?_
    refine x_imul C dX12_riverLine_332 ?_
    refine x_iadd C dX12_riverLine_333 ?_
    refine x_iconst C dX12_riverLine_334 (v := (1 : Int32)) (by decide) ?_
    refine x_iadd C dX12_riverLine_335 ?_
    refine x_iloadn C dX12_riverLine_336 (x := x3) rfl ?_
    refine x_iast C nM1 kM1 dX12_riverLine_337 ?_
    refine x_ltM (fun M36 => ?_)
    refine x_aloadn C dX12_riverLine_338 rfl ?_
    refine x_getR C fl_X12_7 cl_11 (1) nM0 kM0 fM0_1 dX12_riverLine_339 ?_
    refine x_bipush C dX12_riverLine_342 (v := (88 : Int32)) (by decide) ?_
    refine x_iconst C dX12_riverLine_344 (v := (3 : Int32)) (by decide) ?_
    refine x_aloadn C dX12_riverLine_345 rfl ?_
    refine x_getR C fl_X12_7 cl_11 (1) nM0 kM0 fM0_1 dX12_riverLine_346 ?_
    refine x_bipush C dX12_riverLine_349 (v := (12 : Int32)) (by decide) ?_
    refine x_ialdj C nM1 kM1 (j := 12) (by decide) (by decide) dX12_riverLine_351 ?_
    refine x_imul C dX12_riverLine_352 ?_
    refine x_iadd C dX12_riverLine_353 ?_
    refine x_iconst C dX12_riverLine_354 (v := (2 : Int32)) (by decide) ?_
    refine x_iadd C dX12_riverLine_355 ?_
    refine x_iload C dX12_riverLine_356 (x := s0) rfl ?_
    refine x_iast C nM1 kM1 dX12_riverLine_358 ?_
    refine x_ltM (fun M37 => ?_)
    refine x_aloadn C dX12_riverLine_359 rfl ?_
    refine x_getR C fl_X12_7 cl_11 (1) nM0 kM0 fM0_1 dX12_riverLine_360 ?_
    refine x_bipush C dX12_riverLine_363 (v := (12 : Int32)) (by decide) ?_
    refine x_dup2 C dX12_riverLine_365 rfl rfl ?_
    refine x_ialdj C nM1 kM1 (j := 12) (by decide) (by decide) dX12_riverLine_366 ?_
    refine x_iconst C dX12_riverLine_367 (v := (1 : Int32)) (by decide) ?_
    refine x_iadd C dX12_riverLine_368 ?_
    refine x_iastj C nM1 kM1 (j := 12) (by decide) (by decide) dX12_riverLine_369 ?_
    refine x_ltM (fun M38 => ?_)
    refine x_goto C dX12_riverLine_370 (tgt := 482) (by decide) ?_
    exact x_vret C dX12_riverLine_482 rfl
  · exact x_vret C dX12_riverLine_299 rfl
set_option maxHeartbeats 4000000 in
set_option maxRecDepth 20000 in
theorem w_md_riverLine_J288 {z : ZT} {l : Launch} {g : GG} {b : Nat} (C : Cx z l g (wM b) (rmd 8) cX12_riverLine 5 RX12 none)   (x2 : Int32) (x3 : Int32) (M : Mem) : XG z g (wM b) 5 (ZQ z g (wM b) finV) 0 0 288 [some (.ref ((wM b).2.2.2 + 0)), none, some (.int x2), some (.int x3), none] [] M (md_riverLine_J288 x2 x3 M) := by
  rw [md_riverLine_J288]
  refine x_iconst C dX12_riverLine_288 (v := (-1 : Int32)) (by decide) ?_
  exact x_wk (L' := [some (.ref ((wM b).2.2.2 + 0)), none, some (.int x2), some (.int x3), none]) (And.intro rfl (And.intro rfl (And.intro rfl trivial))) (w_md_riverLine_J289 C   (x2) (x3) ((-1 : Int32)) M)
set_option maxHeartbeats 4000000 in
set_option maxRecDepth 20000 in
theorem w_md_riverLine_J248 {z : ZT} {l : Launch} {g : GG} {b : Nat} (C : Cx z l g (wM b) (rmd 8) cX12_riverLine 5 RX12 none)   (M : Mem) : XG z g (wM b) 5 (ZQ z g (wM b) finV) 0 0 248 [some (.ref ((wM b).2.2.2 + 0)), none, none, none, none] [] M (md_riverLine_J248 M) := by
  rw [md_riverLine_J248]
  refine x_aloadn C dX12_riverLine_248 rfl ?_
  refine x_iconst C dX12_riverLine_249 (v := (-1 : Int32)) (by decide) ?_
  refine x_iconst C dX12_riverLine_250 (v := (-1 : Int32)) (by decide) ?_
  refine x_Vm (st := []) C (c_md_being  ((-1 : Int32)) ((-1 : Int32)) M) lk_X12_143 nM0 kM0 ⟨_, _, rfl⟩ rfl rfl (Nat.le_of_ble_eq_true rfl) (rmok_d (by decide) (by decide)) ⟨Nat.zero_le _, Nat.zero_le _⟩ dX12_riverLine_251 (fun v32 M31 => ?_)
  refine x_istoren C dX12_riverLine_254 (L' := [some (.ref ((wM b).2.2.2 + 0)), none, some (.int v32), none, none]) (ltb rfl) rfl ?_
  refine x_aloadn C dX12_riverLine_255 rfl ?_
  refine x_iloadn C dX12_riverLine_256 (x := v32) rfl ?_
  refine x_iconst C dX12_riverLine_257 (v := (-1 : Int32)) (by decide) ?_
  refine x_Vm (st := []) C (c_md_being  (v32) ((-1 : Int32)) M31) lk_X12_143 nM0 kM0 ⟨_, _, rfl⟩ rfl rfl (Nat.le_of_ble_eq_true rfl) (rmok_d (by decide) (by decide)) ⟨Nat.zero_le _, Nat.zero_le _⟩ dX12_riverLine_258 (fun v34 M33 => ?_)
  refine x_istoren C dX12_riverLine_261 (L' := [some (.ref ((wM b).2.2.2 + 0)), none, some (.int v32), some (.int v34), none]) (ltb rfl) rfl ?_
  refine x_aloadn C dX12_riverLine_262 rfl ?_
  refine x_getI C fl_X12_22 cl_11 nM0 kM0 fM0_10 dX12_riverLine_263 ?_
  refine x_iconst C dX12_riverLine_266 (v := (-1 : Int32)) (by decide) ?_
  refine x_icmpne C dX12_riverLine_267 (tgt := 288) (by decide) (fun _h => ?_) (fun _h => ?_)
  · exact x_wk (L' := [some (.ref ((wM b).2.2.2 + 0)), none, some (.int v32), some (.int v34), none]) (And.intro rfl (And.intro rfl (And.intro rfl trivial))) (w_md_riverLine_J288 C   (v32) (v34)  M33)
  · refine x_aloadn C dX12_riverLine_270 rfl ?_
    refine x_ldcS C (i := 29) rfl dX12_riverLine_271 ?_
    refine x_Vm (st := []) C (c_md_has (by decide)  M33) lk_X12_118 nM0 kM0 ⟨_, _, rfl⟩ rfl rfl (Nat.le_of_ble_eq_true rfl) (rmok_d (by decide) (by decide)) ⟨Nat.zero_le _, Nat.zero_le _⟩ dX12_riverLine_273 (fun v40 M39 => ?_)
    refine x_ifeq C dX12_riverLine_276 (tgt := 288) (by decide) (fun _h => ?_) (fun _h => ?_)
    · exact x_wk (L' := [some (.ref ((wM b).2.2.2 + 0)), none, some (.int v32), some (.int v34), none]) (And.intro rfl (And.intro rfl (And.intro rfl trivial))) (w_md_riverLine_J288 C   (v32) (v34)  M39)
    · refine x_aloadn C dX12_riverLine_279 rfl ?_
      refine x_iloadn C dX12_riverLine_280 (x := v32) rfl ?_
      refine x_iloadn C dX12_riverLine_281 (x := v34) rfl ?_
      refine x_Vm (st := []) C (c_md_being  (v32) (v34) M39) lk_X12_143 nM0 kM0 ⟨_, _, rfl⟩ rfl rfl (Nat.le_of_ble_eq_true rfl) (rmok_d (by decide) (by decide)) ⟨Nat.zero_le _, Nat.zero_le _⟩ dX12_riverLine_282 (fun v42 M41 => ?_)
      refine x_goto C dX12_riverLine_285 (tgt := 289) (by decide) ?_
      exact x_wk (L' := [some (.ref ((wM b).2.2.2 + 0)), none, some (.int v32), some (.int v34), none]) (And.intro rfl (And.intro rfl (And.intro rfl trivial))) (w_md_riverLine_J289 C   (v32) (v34) (v42) M41)
set_option maxHeartbeats 4000000 in
set_option maxRecDepth 20000 in
theorem w_md_riverLine_L187 {z : ZT} {l : Launch} {g : GG} {b : Nat} (C : Cx z l g (wM b) (rmd 8) cX12_riverLine 5 RX12 none) (y3 : Int32) {K : Mem → Option Mem} (hK : ∀ (M : Mem) , XG z g (wM b) 5 (ZQ z g (wM b) finV) 0 0 219 [none, none, none, none, none] [] M (K M)) : ∀ (fu : Nat) (x4 : Int32) (M : Mem), XG z g (wM b) 5 (ZQ z g (wM b) finV) 0 0 187 [some (.ref ((wM b).2.2.2 + 0)), none, none, some (.int y3), some (.int x4)] [] M (md_riverLine_L187 y3 K fu x4 M) := by
  intro fu
  induction fu with
  | zero => intro x4 M; exact x_none
  | succ fu ih =>
    intro x4 M
    rw [md_riverLine_L187]
    refine x_iload C dX12_riverLine_187 (x := x4) rfl ?_
    refine x_bipush C dX12_riverLine_189 (v := (24 : Int32)) (by decide) ?_
    refine x_icmpge C dX12_riverLine_191 (tgt := 219) (by decide) (fun _h => ?_) (fun _h => ?_)
    · exact x_wk (L' := [none, none, none, none, none]) (trivial) (hK (M))
    · refine x_aloadn C dX12_riverLine_194 rfl ?_
      refine x_getI C fl_X12_22 cl_11 nM0 kM0 fM0_10 dX12_riverLine_195 ?_
      refine x_iconst C dX12_riverLine_198 (v := (-1 : Int32)) (by decide) ?_
      refine x_icmpne C dX12_riverLine_199 (tgt := 219) (by decide) (fun _h => ?_) (fun _h => ?_)
      · exact x_wk (L' := [none, none, none, none, none]) (trivial) (hK (M))
      · refine x_aloadn C dX12_riverLine_202 rfl ?_
        refine x_getR C fl_X12_7 cl_11 (1) nM0 kM0 fM0_1 dX12_riverLine_203 ?_
        refine x_bipush C dX12_riverLine_206 (v := (14 : Int32)) (by decide) ?_
        refine x_iload C dX12_riverLine_208 (x := x4) rfl ?_
        refine x_iadd C dX12_riverLine_210 ?_
        refine x_iloadn C dX12_riverLine_211 (x := y3) rfl ?_
        refine x_iast C nM1 kM1 dX12_riverLine_212 ?_
        refine x_ltM (fun M48 => ?_)
        refine x_iinc C dX12_riverLine_213 (v := (x4 + (1 : Int32))) rfl rfl (L' := [some (.ref ((wM b).2.2.2 + 0)), none, none, some (.int y3), some (.int (x4 + (1 : Int32)))]) rfl ?_
        refine x_goto C dX12_riverLine_216 (tgt := 187) (by decide) ?_
        exact x_wk (L' := [some (.ref ((wM b).2.2.2 + 0)), none, none, some (.int y3), some (.int (x4 + (1 : Int32)))]) (And.intro rfl (And.intro rfl (And.intro rfl trivial))) (ih ((x4 + (1 : Int32))) (M48))
set_option maxHeartbeats 4000000 in
set_option maxRecDepth 20000 in
theorem c_md_riverLine {l : Launch} {g : GG} {b : Nat} (M : Mem) : CT l g (wM b) (rmd 8) yX12_riverLine cX12_riverLine 5 none [.ref ((wM b).2.2.2 + 0)] M finV (md_riverLine  M) := by
  refine CT.of rfl (Nat.le_of_ble_eq_true rfl) (catc rfl cat0) (fun z C => ?_)
  have C : Cx z l g (wM b) (rmd 8) cX12_riverLine 5 RX12 none := C
  refine x_wk (L' := [some (.ref ((wM b).2.2.2 + 0)), none, none, none, none]) (And.intro rfl trivial) ?_
  rw [md_riverLine]
  refine x_aloadn C dX12_riverLine_0 rfl ?_
  refine x_Vv (st := []) C (c_md_skip   M) lk_X12_97 nM0 kM0 ⟨_, _, rfl⟩ rfl rfl (Nat.le_of_ble_eq_true rfl) (rmok_d (by decide) (by decide)) ⟨Nat.zero_le _, Nat.zero_le _⟩ dX12_riverLine_1 (fun M1 => ?_)
  refine x_aloadn C dX12_riverLine_4 rfl ?_
  refine x_getI C fl_X12_88 cl_11 nM0 kM0 fM0_9 dX12_riverLine_5 ?_
  refine x_istoren C dX12_riverLine_8 (L' := [some (.ref ((wM b).2.2.2 + 0)), some (.int (M1 0 9)), none, none, none]) (ltb rfl) rfl ?_
  refine x_aloadn C dX12_riverLine_9 rfl ?_
  refine x_ldcS C (i := 19) rfl dX12_riverLine_10 ?_
  refine x_Vm (st := []) C (c_md_has (by decide)  M1) lk_X12_118 nM0 kM0 ⟨_, _, rfl⟩ rfl rfl (Nat.le_of_ble_eq_true rfl) (rmok_d (by decide) (by decide)) ⟨Nat.zero_le _, Nat.zero_le _⟩ dX12_riverLine_12 (fun v3 M2 => ?_)
  refine x_ifeq C dX12_riverLine_15 (tgt := 27) (by decide) (fun _h => ?_) (fun _h => ?_)
  · refine x_aloadn C dX12_riverLine_27 rfl ?_
    refine x_ldcS C (i := 21) rfl dX12_riverLine_28 ?_
    refine x_Vm (st := []) C (c_md_has (by decide)  M2) lk_X12_118 nM0 kM0 ⟨_, _, rfl⟩ rfl rfl (Nat.le_of_ble_eq_true rfl) (rmok_d (by decide) (by decide)) ⟨Nat.zero_le _, Nat.zero_le _⟩ dX12_riverLine_30 (fun v5 M4 => ?_)
    refine x_ifeq C dX12_riverLine_33 (tgt := 45) (by decide) (fun _h => ?_) (fun _h => ?_)
    · refine x_aloadn C dX12_riverLine_45 rfl ?_
      refine x_ldcS C (i := 22) rfl dX12_riverLine_46 ?_
      refine x_Vm (st := []) C (c_md_has (by decide)  M4) lk_X12_118 nM0 kM0 ⟨_, _, rfl⟩ rfl rfl (Nat.le_of_ble_eq_true rfl) (rmok_d (by decide) (by decide)) ⟨Nat.zero_le _, Nat.zero_le _⟩ dX12_riverLine_48 (fun v7 M6 => ?_)
      refine x_ifeq C dX12_riverLine_51 (tgt := 63) (by decide) (fun _h => ?_) (fun _h => ?_)
      · refine x_aloadn C dX12_riverLine_63 rfl ?_
        refine x_ldcS C (i := 23) rfl dX12_riverLine_64 ?_
        refine x_Vm (st := []) C (c_md_has (by decide)  M6) lk_X12_118 nM0 kM0 ⟨_, _, rfl⟩ rfl rfl (Nat.le_of_ble_eq_true rfl) (rmok_d (by decide) (by decide)) ⟨Nat.zero_le _, Nat.zero_le _⟩ dX12_riverLine_66 (fun v9 M8 => ?_)
        refine x_ifeq C dX12_riverLine_69 (tgt := 81) (by decide) (fun _h => ?_) (fun _h => ?_)
        · refine x_aloadn C dX12_riverLine_81 rfl ?_
          refine x_ldcS C (i := 24) rfl dX12_riverLine_82 ?_
          refine x_Vm (st := []) C (c_md_has (by decide)  M8) lk_X12_118 nM0 kM0 ⟨_, _, rfl⟩ rfl rfl (Nat.le_of_ble_eq_true rfl) (rmok_d (by decide) (by decide)) ⟨Nat.zero_le _, Nat.zero_le _⟩ dX12_riverLine_84 (fun v11 M10 => ?_)
          refine x_ifeq C dX12_riverLine_87 (tgt := 107) (by decide) (fun _h => ?_) (fun _h => ?_)
          · refine x_aloadn C dX12_riverLine_107 rfl ?_
            refine x_ldcS C (i := 25) rfl dX12_riverLine_108 ?_
            refine x_Vm (st := []) C (c_md_has (by decide)  M10) lk_X12_118 nM0 kM0 ⟨_, _, rfl⟩ rfl rfl (Nat.le_of_ble_eq_true rfl) (rmok_d (by decide) (by decide)) ⟨Nat.zero_le _, Nat.zero_le _⟩ dX12_riverLine_110 (fun v13 M12 => ?_)
            refine x_ifeq C dX12_riverLine_113 (tgt := 133) (by decide) (fun _h => ?_) (fun _h => ?_)
            · refine x_aloadn C dX12_riverLine_133 rfl ?_
              refine x_ldcS C (i := 26) rfl dX12_riverLine_134 ?_
              refine x_Vm (st := []) C (c_md_has (by decide)  M12) lk_X12_118 nM0 kM0 ⟨_, _, rfl⟩ rfl rfl (Nat.le_of_ble_eq_true rfl) (rmok_d (by decide) (by decide)) ⟨Nat.zero_le _, Nat.zero_le _⟩ dX12_riverLine_136 (fun v15 M14 => ?_)
              refine x_ifeq C dX12_riverLine_139 (tgt := 159) (by decide) (fun _h => ?_) (fun _h => ?_)
              · refine x_aloadn C dX12_riverLine_159 rfl ?_
                refine x_ldcS C (i := 27) rfl dX12_riverLine_160 ?_
                refine x_Vm (st := []) C (c_md_has (by decide)  M14) lk_X12_118 nM0 kM0 ⟨_, _, rfl⟩ rfl rfl (Nat.le_of_ble_eq_true rfl) (rmok_d (by decide) (by decide)) ⟨Nat.zero_le _, Nat.zero_le _⟩ dX12_riverLine_162 (fun v17 M16 => ?_)
                refine x_ifeq C dX12_riverLine_165 (tgt := 222) (by decide) (fun _h => ?_) (fun _h => ?_)
                · refine x_aloadn C dX12_riverLine_222 rfl ?_
                  refine x_ldcS C (i := 28) rfl dX12_riverLine_223 ?_
                  refine x_Vm (st := []) C (c_md_has (by decide)  M16) lk_X12_118 nM0 kM0 ⟨_, _, rfl⟩ rfl rfl (Nat.le_of_ble_eq_true rfl) (rmok_d (by decide) (by decide)) ⟨Nat.zero_le _, Nat.zero_le _⟩ dX12_riverLine_225 (fun v19 M18 => ?_)
                  refine x_ifeq C dX12_riverLine_228 (tgt := 373) (by decide) (fun _h => ?_) (fun _h => ?_)
                  · refine x_aloadn C dX12_riverLine_373 rfl ?_
                    refine x_ldcS C (i := 30) rfl dX12_riverLine_374 ?_
                    refine x_Vm (st := []) C (c_md_has (by decide)  M18) lk_X12_118 nM0 kM0 ⟨_, _, rfl⟩ rfl rfl (Nat.le_of_ble_eq_true rfl) (rmok_d (by decide) (by decide)) ⟨Nat.zero_le _, Nat.zero_le _⟩ dX12_riverLine_376 (fun v21 M20 => ?_)
                    refine x_ifeq C dX12_riverLine_379 (tgt := 474) (by decide) (fun _h => ?_) (fun _h => ?_)
                    · refine x_aloadn C dX12_riverLine_474 rfl ?_
                      refine x_aloadn C dX12_riverLine_475 rfl ?_
                      refine x_getI C fl_X12_88 cl_11 nM0 kM0 fM0_9 dX12_riverLine_476 ?_
                      refine x_Vv (st := []) C (c_md_wrong  ((M20 0 9)) M20) lk_X12_109 nM0 kM0 ⟨_, _, rfl⟩ rfl rfl (Nat.le_of_ble_eq_true rfl) (rmok_d (by decide) (by decide)) ⟨Nat.zero_le _, Nat.zero_le _⟩ dX12_riverLine_479 (fun M22 => ?_)
                      exact x_vret C dX12_riverLine_482 rfl
                    · refine x_aloadn C dX12_riverLine_382 rfl ?_
                      refine x_getR C fl_X12_7 cl_11 (1) nM0 kM0 fM0_1 dX12_riverLine_383 ?_
                      refine x_bipush C dX12_riverLine_386 (v := (13 : Int32)) (by decide) ?_
                      refine x_ialdj C nM1 kM1 (j := 13) (by decide) (by decide) dX12_riverLine_388 ?_
                      refine x_bipush C dX12_riverLine_389 (v := (12 : Int32)) (by decide) ?_
                      refine x_icmpne C dX12_riverLine_391 (tgt := 399) (by decide) (fun _h => ?_) (fun _h => ?_)
                      · exact x_wk (L' := [some (.ref ((wM b).2.2.2 + 0)), none, none, none, none]) (And.intro rfl trivial) (w_md_riverLine_J399 C     M20)
                      · refine x_aloadn C dX12_riverLine_394 rfl ?_
                        refine x_iloadn C dX12_riverLine_395 (x := (M1 0 9)) rfl ?_
                        refine x_Vv (st := []) C (c_md_wrong  ((M1 0 9)) M20) lk_X12_109 nM0 kM0 ⟨_, _, rfl⟩ rfl rfl (Nat.le_of_ble_eq_true rfl) (rmok_d (by decide) (by decide)) ⟨Nat.zero_le _, Nat.zero_le _⟩ dX12_riverLine_396 (fun M30 => ?_)
                        exact x_wk (L' := [some (.ref ((wM b).2.2.2 + 0)), none, none, none, none]) (And.intro rfl trivial) (w_md_riverLine_J399 C     M30)
                  · refine x_aloadn C dX12_riverLine_231 rfl ?_
                    refine x_getR C fl_X12_7 cl_11 (1) nM0 kM0 fM0_1 dX12_riverLine_232 ?_
                    refine x_bipush C dX12_riverLine_235 (v := (12 : Int32)) (by decide) ?_
                    refine x_ialdj C nM1 kM1 (j := 12) (by decide) (by decide) dX12_riverLine_237 ?_
                    refine x_bipush C dX12_riverLine_238 (v := (12 : Int32)) (by decide) ?_
                    refine x_icmpne C dX12_riverLine_240 (tgt := 248) (by decide) (fun _h => ?_) (fun _h => ?_)
                    · exact x_wk (L' := [some (.ref ((wM b).2.2.2 + 0)), none, none, none, none]) (And.intro rfl trivial) (w_md_riverLine_J248 C     M18)
                    · refine x_aloadn C dX12_riverLine_243 rfl ?_
                      refine x_iloadn C dX12_riverLine_244 (x := (M1 0 9)) rfl ?_
                      refine x_Vv (st := []) C (c_md_wrong  ((M1 0 9)) M18) lk_X12_109 nM0 kM0 ⟨_, _, rfl⟩ rfl rfl (Nat.le_of_ble_eq_true rfl) (rmok_d (by decide) (by decide)) ⟨Nat.zero_le _, Nat.zero_le _⟩ dX12_riverLine_245 (fun M43 => ?_)
                      exact x_wk (L' := [some (.ref ((wM b).2.2.2 + 0)), none, none, none, none]) (And.intro rfl trivial) (w_md_riverLine_J248 C     M43)
                · refine x_aloadn C dX12_riverLine_168 rfl ?_
                  refine x_iconst C dX12_riverLine_169 (v := (0 : Int32)) (by decide) ?_
                  refine x_bipush C dX12_riverLine_170 (v := (23 : Int32)) (by decide) ?_
                  refine x_Vm (st := []) C (c_md_figures  ((0 : Int32)) ((23 : Int32)) M16) lk_X12_113 nM0 kM0 ⟨_, _, rfl⟩ rfl rfl (Nat.le_of_ble_eq_true rfl) (rmok_d (by decide) (by decide)) ⟨Nat.zero_le _, Nat.zero_le _⟩ dX12_riverLine_172 (fun v45 M44 => ?_)
                  refine x_istoren C dX12_riverLine_175 (L' := [some (.ref ((wM b).2.2.2 + 0)), some (.int (M1 0 9)), some (.int v45), none, none]) (ltb rfl) rfl ?_
                  refine x_aloadn C dX12_riverLine_176 rfl ?_
                  refine x_iconst C dX12_riverLine_177 (v := (0 : Int32)) (by decide) ?_
                  refine x_bipush C dX12_riverLine_178 (v := (9 : Int32)) (by decide) ?_
                  refine x_Vm (st := []) C (c_md_figures  ((0 : Int32)) ((9 : Int32)) M44) lk_X12_113 nM0 kM0 ⟨_, _, rfl⟩ rfl rfl (Nat.le_of_ble_eq_true rfl) (rmok_d (by decide) (by decide)) ⟨Nat.zero_le _, Nat.zero_le _⟩ dX12_riverLine_180 (fun v47 M46 => ?_)
                  refine x_istoren C dX12_riverLine_183 (L' := [some (.ref ((wM b).2.2.2 + 0)), some (.int (M1 0 9)), some (.int v45), some (.int v47), none]) (ltb rfl) rfl ?_
                  refine x_iloadn C dX12_riverLine_184 (x := v45) rfl ?_
                  refine x_istore C dX12_riverLine_185 (L' := [some (.ref ((wM b).2.2.2 + 0)), some (.int (M1 0 9)), some (.int v45), some (.int v47), some (.int v45)]) (ltb rfl) rfl ?_
                  refine x_wk (L' := [some (.ref ((wM b).2.2.2 + 0)), none, none, some (.int v47), some (.int v45)]) (And.intro rfl (And.intro rfl (And.intro rfl trivial))) (w_md_riverLine_L187 C  (v47)  (fun M50 => ?_) FU (v45) M46)
                  refine x_goto C dX12_riverLine_219 (tgt := 482) (by decide) ?_
                  exact x_vret C dX12_riverLine_482 rfl
              · refine x_aloadn C dX12_riverLine_142 rfl ?_
                refine x_getR C fl_X12_7 cl_11 (1) nM0 kM0 fM0_1 dX12_riverLine_143 ?_
                refine x_bipush C dX12_riverLine_146 (v := (7 : Int32)) (by decide) ?_
                refine x_aloadn C dX12_riverLine_148 rfl ?_
                refine x_iconst C dX12_riverLine_149 (v := (1 : Int32)) (by decide) ?_
                refine x_bipush C dX12_riverLine_150 (v := (60 : Int32)) (by decide) ?_
                refine x_Vm (st := [.int (7 : Int32), .ref ((wM b).2.2.2 + 1)]) C (c_md_figures  ((1 : Int32)) ((60 : Int32)) M14) lk_X12_113 nM0 kM0 ⟨_, _, rfl⟩ rfl rfl (Nat.le_of_ble_eq_true rfl) (rmok_d (by decide) (by decide)) ⟨Nat.zero_le _, Nat.zero_le _⟩ dX12_riverLine_152 (fun v52 M51 => ?_)
                refine x_iastj C nM1 kM1 (j := 7) (by decide) (by decide) dX12_riverLine_155 ?_
                refine x_ltM (fun M53 => ?_)
                refine x_goto C dX12_riverLine_156 (tgt := 482) (by decide) ?_
                exact x_vret C dX12_riverLine_482 rfl
            · refine x_aloadn C dX12_riverLine_116 rfl ?_
              refine x_getR C fl_X12_7 cl_11 (1) nM0 kM0 fM0_1 dX12_riverLine_117 ?_
              refine x_bipush C dX12_riverLine_120 (v := (6 : Int32)) (by decide) ?_
              refine x_aloadn C dX12_riverLine_122 rfl ?_
              refine x_iconst C dX12_riverLine_123 (v := (0 : Int32)) (by decide) ?_
              refine x_bipush C dX12_riverLine_124 (v := (99 : Int32)) (by decide) ?_
              refine x_Vm (st := [.int (6 : Int32), .ref ((wM b).2.2.2 + 1)]) C (c_md_figures  ((0 : Int32)) ((99 : Int32)) M12) lk_X12_113 nM0 kM0 ⟨_, _, rfl⟩ rfl rfl (Nat.le_of_ble_eq_true rfl) (rmok_d (by decide) (by decide)) ⟨Nat.zero_le _, Nat.zero_le _⟩ dX12_riverLine_126 (fun v55 M54 => ?_)
              refine x_iastj C nM1 kM1 (j := 6) (by decide) (by decide) dX12_riverLine_129 ?_
              refine x_ltM (fun M56 => ?_)
              refine x_goto C dX12_riverLine_130 (tgt := 482) (by decide) ?_
              exact x_vret C dX12_riverLine_482 rfl
          · refine x_aloadn C dX12_riverLine_90 rfl ?_
            refine x_getR C fl_X12_7 cl_11 (1) nM0 kM0 fM0_1 dX12_riverLine_91 ?_
            refine x_iconst C dX12_riverLine_94 (v := (5 : Int32)) (by decide) ?_
            refine x_aloadn C dX12_riverLine_95 rfl ?_
            refine x_iconst C dX12_riverLine_96 (v := (1 : Int32)) (by decide) ?_
            refine x_sipush C dX12_riverLine_97 (v := (999 : Int32)) (by decide) ?_
            refine x_Vm (st := [.int (5 : Int32), .ref ((wM b).2.2.2 + 1)]) C (c_md_figures  ((1 : Int32)) ((999 : Int32)) M10) lk_X12_113 nM0 kM0 ⟨_, _, rfl⟩ rfl rfl (Nat.le_of_ble_eq_true rfl) (rmok_d (by decide) (by decide)) ⟨Nat.zero_le _, Nat.zero_le _⟩ dX12_riverLine_100 (fun v58 M57 => ?_)
            refine x_iastj C nM1 kM1 (j := 5) (by decide) (by decide) dX12_riverLine_103 ?_
            refine x_ltM (fun M59 => ?_)
            refine x_goto C dX12_riverLine_104 (tgt := 482) (by decide) ?_
            exact x_vret C dX12_riverLine_482 rfl
        · refine x_aloadn C dX12_riverLine_72 rfl ?_
          refine x_iconst C dX12_riverLine_73 (v := (3 : Int32)) (by decide) ?_
          refine x_iloadn C dX12_riverLine_74 (x := (M1 0 9)) rfl ?_
          refine x_Vv (st := []) C (c_md_comes  ((3 : Int32)) ((M1 0 9)) M8) lk_X12_124 nM0 kM0 ⟨_, _, rfl⟩ rfl rfl (Nat.le_of_ble_eq_true rfl) (rmok_d (by decide) (by decide)) ⟨Nat.zero_le _, Nat.zero_le _⟩ dX12_riverLine_75 (fun M60 => ?_)
          refine x_goto C dX12_riverLine_78 (tgt := 482) (by decide) ?_
          exact x_vret C dX12_riverLine_482 rfl
      · refine x_aloadn C dX12_riverLine_54 rfl ?_
        refine x_iconst C dX12_riverLine_55 (v := (2 : Int32)) (by decide) ?_
        refine x_iloadn C dX12_riverLine_56 (x := (M1 0 9)) rfl ?_
        refine x_Vv (st := []) C (c_md_comes  ((2 : Int32)) ((M1 0 9)) M6) lk_X12_124 nM0 kM0 ⟨_, _, rfl⟩ rfl rfl (Nat.le_of_ble_eq_true rfl) (rmok_d (by decide) (by decide)) ⟨Nat.zero_le _, Nat.zero_le _⟩ dX12_riverLine_57 (fun M61 => ?_)
        refine x_goto C dX12_riverLine_60 (tgt := 482) (by decide) ?_
        exact x_vret C dX12_riverLine_482 rfl
    · refine x_aloadn C dX12_riverLine_36 rfl ?_
      refine x_iconst C dX12_riverLine_37 (v := (1 : Int32)) (by decide) ?_
      refine x_iloadn C dX12_riverLine_38 (x := (M1 0 9)) rfl ?_
      refine x_Vv (st := []) C (c_md_comes  ((1 : Int32)) ((M1 0 9)) M4) lk_X12_124 nM0 kM0 ⟨_, _, rfl⟩ rfl rfl (Nat.le_of_ble_eq_true rfl) (rmok_d (by decide) (by decide)) ⟨Nat.zero_le _, Nat.zero_le _⟩ dX12_riverLine_39 (fun M62 => ?_)
      refine x_goto C dX12_riverLine_42 (tgt := 482) (by decide) ?_
      exact x_vret C dX12_riverLine_482 rfl
  · refine x_aloadn C dX12_riverLine_18 rfl ?_
    refine x_iconst C dX12_riverLine_19 (v := (0 : Int32)) (by decide) ?_
    refine x_iloadn C dX12_riverLine_20 (x := (M1 0 9)) rfl ?_
    refine x_Vv (st := []) C (c_md_comes  ((0 : Int32)) ((M1 0 9)) M2) lk_X12_124 nM0 kM0 ⟨_, _, rfl⟩ rfl rfl (Nat.le_of_ble_eq_true rfl) (rmok_d (by decide) (by decide)) ⟨Nat.zero_le _, Nat.zero_le _⟩ dX12_riverLine_21 (fun M63 => ?_)
    refine x_goto C dX12_riverLine_24 (tgt := 482) (by decide) ?_
    exact x_vret C dX12_riverLine_482 rfl
def md_begins (M : Mem) : Option Mem := lt1 (wr M 0 10 (-1 : Int32)) fun M1 => lt1 (wr M1 0 7 (-1 : Int32)) fun M2 => lt1 (wr M2 0 8 (M2 0 6)) fun M3 => lt1 (wr M3 0 6 (0 : Int32)) fun M4 => lt1 (wr M4 0 9 (0 : Int32)) fun M5 => lt1 (wr M5 0 11 (0 : Int32)) fun M6 => some M6
set_option maxHeartbeats 4000000 in
set_option maxRecDepth 20000 in
theorem c_md_begins {l : Launch} {g : GG} {b : Nat} (M : Mem) : CT l g (wM b) (rmd 1) yX12_begins cX12_begins 1 none [.ref ((wM b).2.2.2 + 0)] M finV (md_begins  M) := by
  refine CT.of rfl (Nat.le_of_ble_eq_true rfl) (catc rfl cat0) (fun z C => ?_)
  have C : Cx z l g (wM b) (rmd 1) cX12_begins 1 RX12 none := C
  refine x_wk (L' := [some (.ref ((wM b).2.2.2 + 0))]) (And.intro rfl trivial) ?_
  rw [md_begins]
  refine x_aloadn C dX12_begins_0 rfl ?_
  refine x_iconst C dX12_begins_1 (v := (-1 : Int32)) (by decide) ?_
  refine x_putI C fl_X12_22 cl_11 fint_11_10 nM0 kM0 fM0_10 dX12_begins_2 ?_
  refine x_ltM (fun M1 => ?_)
  refine x_aloadn C dX12_begins_5 rfl ?_
  refine x_iconst C dX12_begins_6 (v := (-1 : Int32)) (by decide) ?_
  refine x_putI C fl_X12_85 cl_11 fint_11_7 nM0 kM0 fM0_7 dX12_begins_7 ?_
  refine x_ltM (fun M2 => ?_)
  refine x_aloadn C dX12_begins_10 rfl ?_
  refine x_aloadn C dX12_begins_11 rfl ?_
  refine x_getI C fl_X12_82 cl_11 nM0 kM0 fM0_6 dX12_begins_12 ?_
  refine x_putI C fl_X12_91 cl_11 fint_11_8 nM0 kM0 fM0_8 dX12_begins_15 ?_
  refine x_ltM (fun M3 => ?_)
  refine x_aloadn C dX12_begins_18 rfl ?_
  refine x_iconst C dX12_begins_19 (v := (0 : Int32)) (by decide) ?_
  refine x_putI C fl_X12_82 cl_11 fint_11_6 nM0 kM0 fM0_6 dX12_begins_20 ?_
  refine x_ltM (fun M4 => ?_)
  refine x_aloadn C dX12_begins_23 rfl ?_
  refine x_iconst C dX12_begins_24 (v := (0 : Int32)) (by decide) ?_
  refine x_putI C fl_X12_88 cl_11 fint_11_9 nM0 kM0 fM0_9 dX12_begins_25 ?_
  refine x_ltM (fun M5 => ?_)
  refine x_aloadn C dX12_begins_28 rfl ?_
  refine x_iconst C dX12_begins_29 (v := (0 : Int32)) (by decide) ?_
  refine x_putI C fl_X12_150 cl_11 fint_11_11 nM0 kM0 fM0_11 dX12_begins_30 ?_
  refine x_ltM (fun M6 => ?_)
  exact x_vret C dX12_begins_33 rfl
def md_every_L5 (self : Mem → Option (Int32 × Mem)) (K : Int32 → Mem → Option (Int32 × Mem)) : Nat → Int32 → Mem → Option (Int32 × Mem)
  | 0, _, _ => none
  | fu + 1, x1, M => (if (M 0 10) = (-1 : Int32) then bnd2 (md_has 17 M) fun v4 M3 => (if v4 = 0 then K (x1) (M3) else bnd2 (self M3) fun v6 M5 => (if x1 = 0 then md_every_L5 self K fu ((0 : Int32)) (M5) else (if v6 = 0 then md_every_L5 self K fu ((0 : Int32)) (M5) else md_every_L5 self K fu ((1 : Int32)) (M5)))) else K (x1) (M))
def md_every (self : Mem → Option (Int32 × Mem)) (M : Mem) : Option (Int32 × Mem) := bnd2 (self M) fun v2 M1 => md_every_L5 self (fun v1_6 M8 => chk (isB v1_6) (some (v1_6, M8))) FU (v2) M1
set_option maxHeartbeats 4000000 in
set_option maxRecDepth 20000 in
theorem w_md_every_L5 {z : ZT} {l : Launch} {g : GG} {b : Nat} {self : Mem → Option (Int32 × Mem)} {ds : Nat} (C : Cx z l g (wM b) (rmd (ds + 7)) cX12_every 3 RX12 (some .boolean)) (hself : ∀ (M : Mem), CT l g (wM b) (rmd ds) yX12_atom cX12_atom 4 (some .boolean) [.ref ((wM b).2.2.2 + 0)] M finM (self  M))  {K : Int32 → Mem → Option (Int32 × Mem)} (hK : ∀ (x1 : Int32) (M : Mem) , XG z g (wM b) 3 (ZQ z g (wM b) finM) 0 0 44 [none, some (.int x1), none] [] M (K x1 M)) : ∀ (fu : Nat) (x1 : Int32) (M : Mem), XG z g (wM b) 3 (ZQ z g (wM b) finM) 0 0 5 [some (.ref ((wM b).2.2.2 + 0)), some (.int x1), none] [] M (md_every_L5 self K fu x1 M) := by
  intro fu
  induction fu with
  | zero => intro x1 M; exact x_none
  | succ fu ih =>
    intro x1 M
    rw [md_every_L5]
    refine x_aloadn C dX12_every_5 rfl ?_
    refine x_getI C fl_X12_22 cl_11 nM0 kM0 fM0_10 dX12_every_6 ?_
    refine x_iconst C dX12_every_9 (v := (-1 : Int32)) (by decide) ?_
    refine x_icmpne C dX12_every_10 (tgt := 44) (by decide) (fun _h => ?_) (fun _h => ?_)
    · exact x_wk (L' := [none, some (.int x1), none]) (And.intro rfl trivial) (hK (x1) (M))
    · refine x_aloadn C dX12_every_13 rfl ?_
      refine x_ldcS C (i := 17) rfl dX12_every_14 ?_
      refine x_Vm (st := []) C (c_md_has (by decide)  M) lk_X12_118 nM0 kM0 ⟨_, _, rfl⟩ rfl rfl (Nat.le_of_ble_eq_true rfl) (rmok_d (by omega) (by decide)) ⟨Nat.zero_le _, Nat.zero_le _⟩ dX12_every_16 (fun v4 M3 => ?_)
      refine x_ifeq C dX12_every_19 (tgt := 44) (by decide) (fun _h => ?_) (fun _h => ?_)
      · exact x_wk (L' := [none, some (.int x1), none]) (And.intro rfl trivial) (hK (x1) (M3))
      · refine x_aloadn C dX12_every_22 rfl ?_
        refine x_Vm (st := []) C (hself  M3) lk_X12_190 nM0 kM0 ⟨_, _, rfl⟩ rfl rfl (Nat.le_of_ble_eq_true rfl) (rmok_d (by omega) (by decide)) ⟨Nat.zero_le _, Nat.zero_le _⟩ dX12_every_23 (fun v6 M5 => ?_)
        refine x_istoren C dX12_every_26 (L' := [some (.ref ((wM b).2.2.2 + 0)), some (.int x1), some (.int v6)]) (ltb rfl) rfl ?_
        refine x_iloadn C dX12_every_27 (x := x1) rfl ?_
        refine x_ifeq C dX12_every_28 (tgt := 39) (by decide) (fun _h => ?_) (fun _h => ?_)
        · refine x_iconst C dX12_every_39 (v := (0 : Int32)) (by decide) ?_
          refine x_istoren C dX12_every_40 (L' := [some (.ref ((wM b).2.2.2 + 0)), some (.int (0 : Int32)), some (.int v6)]) (ltb rfl) rfl ?_
          refine x_goto C dX12_every_41 (tgt := 5) (by decide) ?_
          exact x_wk (L' := [some (.ref ((wM b).2.2.2 + 0)), some (.int (0 : Int32)), none]) (And.intro rfl (And.intro rfl trivial)) (ih ((0 : Int32)) (M5))
        · refine x_iloadn C dX12_every_31 (x := v6) rfl ?_
          refine x_ifeq C dX12_every_32 (tgt := 39) (by decide) (fun _h => ?_) (fun _h => ?_)
          · refine x_iconst C dX12_every_39 (v := (0 : Int32)) (by decide) ?_
            refine x_istoren C dX12_every_40 (L' := [some (.ref ((wM b).2.2.2 + 0)), some (.int (0 : Int32)), some (.int v6)]) (ltb rfl) rfl ?_
            refine x_goto C dX12_every_41 (tgt := 5) (by decide) ?_
            exact x_wk (L' := [some (.ref ((wM b).2.2.2 + 0)), some (.int (0 : Int32)), none]) (And.intro rfl (And.intro rfl trivial)) (ih ((0 : Int32)) (M5))
          · refine x_iconst C dX12_every_35 (v := (1 : Int32)) (by decide) ?_
            refine x_goto C dX12_every_36 (tgt := 40) (by decide) ?_
            refine x_istoren C dX12_every_40 (L' := [some (.ref ((wM b).2.2.2 + 0)), some (.int (1 : Int32)), some (.int v6)]) (ltb rfl) rfl ?_
            refine x_goto C dX12_every_41 (tgt := 5) (by decide) ?_
            exact x_wk (L' := [some (.ref ((wM b).2.2.2 + 0)), some (.int (1 : Int32)), none]) (And.intro rfl (And.intro rfl trivial)) (ih ((1 : Int32)) (M5))
set_option maxHeartbeats 4000000 in
set_option maxRecDepth 20000 in
theorem c_md_every {l : Launch} {g : GG} {b : Nat} {self : Mem → Option (Int32 × Mem)} {ds : Nat} (hself : ∀ (M : Mem), CT l g (wM b) (rmd ds) yX12_atom cX12_atom 4 (some .boolean) [.ref ((wM b).2.2.2 + 0)] M finM (self  M)) (M : Mem) : CT l g (wM b) (rmd (ds + 7)) yX12_every cX12_every 3 (some .boolean) [.ref ((wM b).2.2.2 + 0)] M finM (md_every self  M) := by
  refine CT.of rfl (Nat.le_of_ble_eq_true rfl) (catc rfl cat0) (fun z C => ?_)
  have C : Cx z l g (wM b) (rmd (ds + 7)) cX12_every 3 RX12 (some .boolean) := C
  refine x_wk (L' := [some (.ref ((wM b).2.2.2 + 0)), none, none]) (And.intro rfl trivial) ?_
  rw [md_every]
  refine x_aloadn C dX12_every_0 rfl ?_
  refine x_Vm (st := []) C (hself  M) lk_X12_190 nM0 kM0 ⟨_, _, rfl⟩ rfl rfl (Nat.le_of_ble_eq_true rfl) (rmok_d (by omega) (by decide)) ⟨Nat.zero_le _, Nat.zero_le _⟩ dX12_every_1 (fun v2 M1 => ?_)
  refine x_istoren C dX12_every_4 (L' := [some (.ref ((wM b).2.2.2 + 0)), some (.int v2), none]) (ltb rfl) rfl ?_
  refine x_wk (L' := [some (.ref ((wM b).2.2.2 + 0)), some (.int v2), none]) (And.intro rfl (And.intro rfl trivial)) (w_md_every_L5 C hself    (fun v1_6 M8 => ?_) FU (v2) M1)
  refine x_iloadn C dX12_every_44 (x := v1_6) rfl ?_
  exact x_zretc C dX12_every_45 rfl
def md_some_L5 (self : Mem → Option (Int32 × Mem)) (K : Int32 → Mem → Option (Int32 × Mem)) : Nat → Int32 → Mem → Option (Int32 × Mem)
  | 0, _, _ => none
  | fu + 1, x1, M => (if (M 0 10) = (-1 : Int32) then bnd2 (md_has 18 M) fun v4 M3 => (if v4 = 0 then K (x1) (M3) else bnd2 (md_every self M3) fun v6 M5 => (if x1 = 0 then (if v6 = 0 then md_some_L5 self K fu ((0 : Int32)) (M5) else md_some_L5 self K fu ((1 : Int32)) (M5)) else md_some_L5 self K fu ((1 : Int32)) (M5))) else K (x1) (M))
def md_some (self : Mem → Option (Int32 × Mem)) (M : Mem) : Option (Int32 × Mem) := bnd2 (md_every self M) fun v2 M1 => md_some_L5 self (fun v1_6 M8 => chk (isB v1_6) (some (v1_6, M8))) FU (v2) M1
set_option maxHeartbeats 4000000 in
set_option maxRecDepth 20000 in
theorem w_md_some_L5 {z : ZT} {l : Launch} {g : GG} {b : Nat} {self : Mem → Option (Int32 × Mem)} {ds : Nat} (C : Cx z l g (wM b) (rmd (ds + 8)) cX12_some 3 RX12 (some .boolean)) (hself : ∀ (M : Mem), CT l g (wM b) (rmd ds) yX12_atom cX12_atom 4 (some .boolean) [.ref ((wM b).2.2.2 + 0)] M finM (self  M))  {K : Int32 → Mem → Option (Int32 × Mem)} (hK : ∀ (x1 : Int32) (M : Mem) , XG z g (wM b) 3 (ZQ z g (wM b) finM) 0 0 44 [none, some (.int x1), none] [] M (K x1 M)) : ∀ (fu : Nat) (x1 : Int32) (M : Mem), XG z g (wM b) 3 (ZQ z g (wM b) finM) 0 0 5 [some (.ref ((wM b).2.2.2 + 0)), some (.int x1), none] [] M (md_some_L5 self K fu x1 M) := by
  intro fu
  induction fu with
  | zero => intro x1 M; exact x_none
  | succ fu ih =>
    intro x1 M
    rw [md_some_L5]
    refine x_aloadn C dX12_some_5 rfl ?_
    refine x_getI C fl_X12_22 cl_11 nM0 kM0 fM0_10 dX12_some_6 ?_
    refine x_iconst C dX12_some_9 (v := (-1 : Int32)) (by decide) ?_
    refine x_icmpne C dX12_some_10 (tgt := 44) (by decide) (fun _h => ?_) (fun _h => ?_)
    · exact x_wk (L' := [none, some (.int x1), none]) (And.intro rfl trivial) (hK (x1) (M))
    · refine x_aloadn C dX12_some_13 rfl ?_
      refine x_ldcS C (i := 18) rfl dX12_some_14 ?_
      refine x_Vm (st := []) C (c_md_has (by decide)  M) lk_X12_118 nM0 kM0 ⟨_, _, rfl⟩ rfl rfl (Nat.le_of_ble_eq_true rfl) (rmok_d (by omega) (by decide)) ⟨Nat.zero_le _, Nat.zero_le _⟩ dX12_some_16 (fun v4 M3 => ?_)
      refine x_ifeq C dX12_some_19 (tgt := 44) (by decide) (fun _h => ?_) (fun _h => ?_)
      · exact x_wk (L' := [none, some (.int x1), none]) (And.intro rfl trivial) (hK (x1) (M3))
      · refine x_aloadn C dX12_some_22 rfl ?_
        refine x_Vm (st := []) C (c_md_every hself  M3) lk_X12_198 nM0 kM0 ⟨_, _, rfl⟩ rfl rfl (Nat.le_of_ble_eq_true rfl) (rmok_d (by omega) (by decide)) ⟨Nat.zero_le _, Nat.zero_le _⟩ dX12_some_23 (fun v6 M5 => ?_)
        refine x_istoren C dX12_some_26 (L' := [some (.ref ((wM b).2.2.2 + 0)), some (.int x1), some (.int v6)]) (ltb rfl) rfl ?_
        refine x_iloadn C dX12_some_27 (x := x1) rfl ?_
        refine x_ifne C dX12_some_28 (tgt := 35) (by decide) (fun _h => ?_) (fun _h => ?_)
        · refine x_iconst C dX12_some_35 (v := (1 : Int32)) (by decide) ?_
          refine x_goto C dX12_some_36 (tgt := 40) (by decide) ?_
          refine x_istoren C dX12_some_40 (L' := [some (.ref ((wM b).2.2.2 + 0)), some (.int (1 : Int32)), some (.int v6)]) (ltb rfl) rfl ?_
          refine x_goto C dX12_some_41 (tgt := 5) (by decide) ?_
          exact x_wk (L' := [some (.ref ((wM b).2.2.2 + 0)), some (.int (1 : Int32)), none]) (And.intro rfl (And.intro rfl trivial)) (ih ((1 : Int32)) (M5))
        · refine x_iloadn C dX12_some_31 (x := v6) rfl ?_
          refine x_ifeq C dX12_some_32 (tgt := 39) (by decide) (fun _h => ?_) (fun _h => ?_)
          · refine x_iconst C dX12_some_39 (v := (0 : Int32)) (by decide) ?_
            refine x_istoren C dX12_some_40 (L' := [some (.ref ((wM b).2.2.2 + 0)), some (.int (0 : Int32)), some (.int v6)]) (ltb rfl) rfl ?_
            refine x_goto C dX12_some_41 (tgt := 5) (by decide) ?_
            exact x_wk (L' := [some (.ref ((wM b).2.2.2 + 0)), some (.int (0 : Int32)), none]) (And.intro rfl (And.intro rfl trivial)) (ih ((0 : Int32)) (M5))
          · refine x_iconst C dX12_some_35 (v := (1 : Int32)) (by decide) ?_
            refine x_goto C dX12_some_36 (tgt := 40) (by decide) ?_
            refine x_istoren C dX12_some_40 (L' := [some (.ref ((wM b).2.2.2 + 0)), some (.int (1 : Int32)), some (.int v6)]) (ltb rfl) rfl ?_
            refine x_goto C dX12_some_41 (tgt := 5) (by decide) ?_
            exact x_wk (L' := [some (.ref ((wM b).2.2.2 + 0)), some (.int (1 : Int32)), none]) (And.intro rfl (And.intro rfl trivial)) (ih ((1 : Int32)) (M5))
set_option maxHeartbeats 4000000 in
set_option maxRecDepth 20000 in
theorem c_md_some {l : Launch} {g : GG} {b : Nat} {self : Mem → Option (Int32 × Mem)} {ds : Nat} (hself : ∀ (M : Mem), CT l g (wM b) (rmd ds) yX12_atom cX12_atom 4 (some .boolean) [.ref ((wM b).2.2.2 + 0)] M finM (self  M)) (M : Mem) : CT l g (wM b) (rmd (ds + 8)) yX12_some cX12_some 3 (some .boolean) [.ref ((wM b).2.2.2 + 0)] M finM (md_some self  M) := by
  refine CT.of rfl (Nat.le_of_ble_eq_true rfl) (catc rfl cat0) (fun z C => ?_)
  have C : Cx z l g (wM b) (rmd (ds + 8)) cX12_some 3 RX12 (some .boolean) := C
  refine x_wk (L' := [some (.ref ((wM b).2.2.2 + 0)), none, none]) (And.intro rfl trivial) ?_
  rw [md_some]
  refine x_aloadn C dX12_some_0 rfl ?_
  refine x_Vm (st := []) C (c_md_every hself  M) lk_X12_198 nM0 kM0 ⟨_, _, rfl⟩ rfl rfl (Nat.le_of_ble_eq_true rfl) (rmok_d (by omega) (by decide)) ⟨Nat.zero_le _, Nat.zero_le _⟩ dX12_some_1 (fun v2 M1 => ?_)
  refine x_istoren C dX12_some_4 (L' := [some (.ref ((wM b).2.2.2 + 0)), some (.int v2), none]) (ltb rfl) rfl ?_
  refine x_wk (L' := [some (.ref ((wM b).2.2.2 + 0)), some (.int v2), none]) (And.intro rfl (And.intro rfl trivial)) (w_md_some_L5 C hself    (fun v1_6 M8 => ?_) FU (v2) M1)
  refine x_iloadn C dX12_some_44 (x := v1_6) rfl ?_
  exact x_zretc C dX12_some_45 rfl
def md_part_J105 (s0 : Int32) (M : Mem) : Option (Int32 × Mem) := (if s0 = (-1 : Int32) then (md_wrong ((M 0 9)) M).bind fun M10 => some ((0 : Int32), M10) else chk (inb s0 4) (some ((M 5 s0.toNatClampNeg), M)))
def md_part_J52 (M : Mem) : Option (Int32 × Mem) := bnd2 (md_has 13 M) fun v3 M2 => (if v3 = 0 then bnd2 (md_has 14 M2) fun v5 M4 => (if v5 = 0 then bnd2 (md_has 15 M4) fun v7 M6 => (if v7 = 0 then bnd2 (md_has 16 M6) fun v9 M8 => (if v9 = 0 then md_part_J105 ((-1 : Int32)) M8 else md_part_J105 ((3 : Int32)) M8) else md_part_J105 ((2 : Int32)) M6) else md_part_J105 ((1 : Int32)) M4) else md_part_J105 ((0 : Int32)) M2)
def md_part (M : Mem) : Option (Int32 × Mem) := (if (M 0 10) = (-1 : Int32) then (md_skip M).bind fun M1 => (if (M1 0 9) < (M1 0 8) then (md_letter ((M1 0 9)) M1).bind fun v11 => (md_isIn (v11) ((48 : Int32)) ((57 : Int32)) M1).bind fun v12 => (if v12 = 0 then md_part_J52 M1 else bnd2 (md_figures ((0 : Int32)) ((999 : Int32)) M1) fun v14 M13 => some (v14, M13)) else md_part_J52 M1) else some ((0 : Int32), M))
set_option maxHeartbeats 4000000 in
set_option maxRecDepth 20000 in
theorem w_md_part_J105 {z : ZT} {l : Launch} {g : GG} {b : Nat} (C : Cx z l g (wM b) (rmd 7) cX12_part 2 RX12 (some .int))   (s0 : Int32) (M : Mem) : XG z g (wM b) 2 (ZQ z g (wM b) finM) 0 0 105 [some (.ref ((wM b).2.2.2 + 0)), none] [.int s0] M (md_part_J105 s0 M) := by
  rw [md_part_J105]
  refine x_istoren C dX12_part_105 (L' := [some (.ref ((wM b).2.2.2 + 0)), some (.int s0)]) (ltb rfl) rfl ?_
  refine x_iloadn C dX12_part_106 (x := s0) rfl ?_
  refine x_iconst C dX12_part_107 (v := (-1 : Int32)) (by decide) ?_
  refine x_icmpne C dX12_part_108 (tgt := 121) (by decide) (fun _h => ?_) (fun _h => ?_)
  · refine x_aloadn C dX12_part_121 rfl ?_
    refine x_getR C fl_X12_26 cl_11 (5) nM0 kM0 fM0_12 dX12_part_122 ?_
    refine x_iloadn C dX12_part_125 (x := s0) rfl ?_
    refine x_iald C nM5 kM5 dX12_part_126 ?_
    exact x_iret C dX12_part_127 rfl
  · refine x_aloadn C dX12_part_111 rfl ?_
    refine x_aloadn C dX12_part_112 rfl ?_
    refine x_getI C fl_X12_88 cl_11 nM0 kM0 fM0_9 dX12_part_113 ?_
    refine x_Vv (st := []) C (c_md_wrong  ((M 0 9)) M) lk_X12_109 nM0 kM0 ⟨_, _, rfl⟩ rfl rfl (Nat.le_of_ble_eq_true rfl) (rmok_d (by decide) (by decide)) ⟨Nat.zero_le _, Nat.zero_le _⟩ dX12_part_116 (fun M10 => ?_)
    refine x_iconst C dX12_part_119 (v := (0 : Int32)) (by decide) ?_
    exact x_iret C dX12_part_120 rfl
set_option maxHeartbeats 4000000 in
set_option maxRecDepth 20000 in
theorem w_md_part_J52 {z : ZT} {l : Launch} {g : GG} {b : Nat} (C : Cx z l g (wM b) (rmd 7) cX12_part 2 RX12 (some .int))   (M : Mem) : XG z g (wM b) 2 (ZQ z g (wM b) finM) 0 0 52 [some (.ref ((wM b).2.2.2 + 0)), none] [] M (md_part_J52 M) := by
  rw [md_part_J52]
  refine x_aloadn C dX12_part_52 rfl ?_
  refine x_ldcS C (i := 13) rfl dX12_part_53 ?_
  refine x_Vm (st := []) C (c_md_has (by decide)  M) lk_X12_118 nM0 kM0 ⟨_, _, rfl⟩ rfl rfl (Nat.le_of_ble_eq_true rfl) (rmok_d (by decide) (by decide)) ⟨Nat.zero_le _, Nat.zero_le _⟩ dX12_part_55 (fun v3 M2 => ?_)
  refine x_ifeq C dX12_part_58 (tgt := 65) (by decide) (fun _h => ?_) (fun _h => ?_)
  · refine x_aloadn C dX12_part_65 rfl ?_
    refine x_ldcS C (i := 14) rfl dX12_part_66 ?_
    refine x_Vm (st := []) C (c_md_has (by decide)  M2) lk_X12_118 nM0 kM0 ⟨_, _, rfl⟩ rfl rfl (Nat.le_of_ble_eq_true rfl) (rmok_d (by decide) (by decide)) ⟨Nat.zero_le _, Nat.zero_le _⟩ dX12_part_68 (fun v5 M4 => ?_)
    refine x_ifeq C dX12_part_71 (tgt := 78) (by decide) (fun _h => ?_) (fun _h => ?_)
    · refine x_aloadn C dX12_part_78 rfl ?_
      refine x_ldcS C (i := 15) rfl dX12_part_79 ?_
      refine x_Vm (st := []) C (c_md_has (by decide)  M4) lk_X12_118 nM0 kM0 ⟨_, _, rfl⟩ rfl rfl (Nat.le_of_ble_eq_true rfl) (rmok_d (by decide) (by decide)) ⟨Nat.zero_le _, Nat.zero_le _⟩ dX12_part_81 (fun v7 M6 => ?_)
      refine x_ifeq C dX12_part_84 (tgt := 91) (by decide) (fun _h => ?_) (fun _h => ?_)
      · refine x_aloadn C dX12_part_91 rfl ?_
        refine x_ldcS C (i := 16) rfl dX12_part_92 ?_
        refine x_Vm (st := []) C (c_md_has (by decide)  M6) lk_X12_118 nM0 kM0 ⟨_, _, rfl⟩ rfl rfl (Nat.le_of_ble_eq_true rfl) (rmok_d (by decide) (by decide)) ⟨Nat.zero_le _, Nat.zero_le _⟩ dX12_part_94 (fun v9 M8 => ?_)
        refine x_ifeq C dX12_part_97 (tgt := 104) (by decide) (fun _h => ?_) (fun _h => ?_)
        · refine x_iconst C dX12_part_104 (v := (-1 : Int32)) (by decide) ?_
          exact x_wk (L' := [some (.ref ((wM b).2.2.2 + 0)), none]) (And.intro rfl trivial) (w_md_part_J105 C    ((-1 : Int32)) M8)
        · refine x_iconst C dX12_part_100 (v := (3 : Int32)) (by decide) ?_
          refine x_goto C dX12_part_101 (tgt := 105) (by decide) ?_
          exact x_wk (L' := [some (.ref ((wM b).2.2.2 + 0)), none]) (And.intro rfl trivial) (w_md_part_J105 C    ((3 : Int32)) M8)
      · refine x_iconst C dX12_part_87 (v := (2 : Int32)) (by decide) ?_
        refine x_goto C dX12_part_88 (tgt := 105) (by decide) ?_
        exact x_wk (L' := [some (.ref ((wM b).2.2.2 + 0)), none]) (And.intro rfl trivial) (w_md_part_J105 C    ((2 : Int32)) M6)
    · refine x_iconst C dX12_part_74 (v := (1 : Int32)) (by decide) ?_
      refine x_goto C dX12_part_75 (tgt := 105) (by decide) ?_
      exact x_wk (L' := [some (.ref ((wM b).2.2.2 + 0)), none]) (And.intro rfl trivial) (w_md_part_J105 C    ((1 : Int32)) M4)
  · refine x_iconst C dX12_part_61 (v := (0 : Int32)) (by decide) ?_
    refine x_goto C dX12_part_62 (tgt := 105) (by decide) ?_
    exact x_wk (L' := [some (.ref ((wM b).2.2.2 + 0)), none]) (And.intro rfl trivial) (w_md_part_J105 C    ((0 : Int32)) M2)
set_option maxHeartbeats 4000000 in
set_option maxRecDepth 20000 in
theorem c_md_part {l : Launch} {g : GG} {b : Nat} (M : Mem) : CT l g (wM b) (rmd 7) yX12_part cX12_part 2 (some .int) [.ref ((wM b).2.2.2 + 0)] M finM (md_part  M) := by
  refine CT.of rfl (Nat.le_of_ble_eq_true rfl) (catc rfl cat0) (fun z C => ?_)
  have C : Cx z l g (wM b) (rmd 7) cX12_part 2 RX12 (some .int) := C
  refine x_wk (L' := [some (.ref ((wM b).2.2.2 + 0)), none]) (And.intro rfl trivial) ?_
  rw [md_part]
  refine x_aloadn C dX12_part_0 rfl ?_
  refine x_getI C fl_X12_22 cl_11 nM0 kM0 fM0_10 dX12_part_1 ?_
  refine x_iconst C dX12_part_4 (v := (-1 : Int32)) (by decide) ?_
  refine x_icmpeq C dX12_part_5 (tgt := 10) (by decide) (fun _h => ?_) (fun _h => ?_)
  · refine x_aloadn C dX12_part_10 rfl ?_
    refine x_Vv (st := []) C (c_md_skip   M) lk_X12_97 nM0 kM0 ⟨_, _, rfl⟩ rfl rfl (Nat.le_of_ble_eq_true rfl) (rmok_d (by decide) (by decide)) ⟨Nat.zero_le _, Nat.zero_le _⟩ dX12_part_11 (fun M1 => ?_)
    refine x_aloadn C dX12_part_14 rfl ?_
    refine x_getI C fl_X12_88 cl_11 nM0 kM0 fM0_9 dX12_part_15 ?_
    refine x_aloadn C dX12_part_18 rfl ?_
    refine x_getI C fl_X12_91 cl_11 nM0 kM0 fM0_8 dX12_part_19 ?_
    refine x_icmpge C dX12_part_22 (tgt := 52) (by decide) (fun _h => ?_) (fun _h => ?_)
    · exact x_wk (L' := [some (.ref ((wM b).2.2.2 + 0)), none]) (And.intro rfl trivial) (w_md_part_J52 C     M1)
    · refine x_aloadn C dX12_part_25 rfl ?_
      refine x_aloadn C dX12_part_26 rfl ?_
      refine x_getI C fl_X12_88 cl_11 nM0 kM0 fM0_9 dX12_part_27 ?_
      refine x_Vi (st := []) C (c_md_letter  ((M1 0 9)) M1) lk_X12_94 nM0 kM0 ⟨_, _, rfl⟩ rfl rfl (Nat.le_of_ble_eq_true rfl) (rmok_d (by decide) (by decide)) ⟨Nat.zero_le _, Nat.zero_le _⟩ dX12_part_30 (fun v11 => ?_)
      refine x_bipush C dX12_part_33 (v := (48 : Int32)) (by decide) ?_
      refine x_bipush C dX12_part_35 (v := (57 : Int32)) (by decide) ?_
      refine x_Si (st := []) C (c_md_isIn  (v11) ((48 : Int32)) ((57 : Int32)) M1) lk_X12_62 rfl rfl (Nat.le_of_ble_eq_true rfl) (rmok_d (by decide) (by decide)) ⟨Nat.zero_le _, Nat.zero_le _⟩ dX12_part_37 (fun v12 => ?_)
      refine x_ifeq C dX12_part_40 (tgt := 52) (by decide) (fun _h => ?_) (fun _h => ?_)
      · exact x_wk (L' := [some (.ref ((wM b).2.2.2 + 0)), none]) (And.intro rfl trivial) (w_md_part_J52 C     M1)
      · refine x_aloadn C dX12_part_43 rfl ?_
        refine x_iconst C dX12_part_44 (v := (0 : Int32)) (by decide) ?_
        refine x_sipush C dX12_part_45 (v := (999 : Int32)) (by decide) ?_
        refine x_Vm (st := []) C (c_md_figures  ((0 : Int32)) ((999 : Int32)) M1) lk_X12_113 nM0 kM0 ⟨_, _, rfl⟩ rfl rfl (Nat.le_of_ble_eq_true rfl) (rmok_d (by decide) (by decide)) ⟨Nat.zero_le _, Nat.zero_le _⟩ dX12_part_48 (fun v14 M13 => ?_)
        exact x_iret C dX12_part_51 rfl
  · refine x_iconst C dX12_part_8 (v := (0 : Int32)) (by decide) ?_
    exact x_iret C dX12_part_9 rfl
def md_sum_L5  (K : Int32 → Mem → Option (Int32 × Mem)) : Nat → Int32 → Mem → Option (Int32 × Mem)
  | 0, _, _ => none
  | fu + 1, x1, M => (if (M 0 10) = (-1 : Int32) then bnd2 (md_isSign ((43 : Int32)) M) fun v4 M3 => (if v4 = 0 then K (x1) (M3) else lt1 (wr M3 0 9 ((M3 0 9) + (1 : Int32))) fun M5 => bnd2 (md_part M5) fun v7 M6 => md_sum_L5 K fu ((x1 + v7)) (M6)) else K (x1) (M))
def md_sum (M : Mem) : Option (Int32 × Mem) := bnd2 (md_part M) fun v2 M1 => md_sum_L5 (fun v1_7 M9 => some (v1_7, M9)) FU (v2) M1
set_option maxHeartbeats 4000000 in
set_option maxRecDepth 20000 in
theorem w_md_sum_L5 {z : ZT} {l : Launch} {g : GG} {b : Nat} (C : Cx z l g (wM b) (rmd 8) cX12_sum 2 RX12 (some .int))  {K : Int32 → Mem → Option (Int32 × Mem)} (hK : ∀ (x1 : Int32) (M : Mem) , XG z g (wM b) 2 (ZQ z g (wM b) finM) 0 0 42 [none, some (.int x1)] [] M (K x1 M)) : ∀ (fu : Nat) (x1 : Int32) (M : Mem), XG z g (wM b) 2 (ZQ z g (wM b) finM) 0 0 5 [some (.ref ((wM b).2.2.2 + 0)), some (.int x1)] [] M (md_sum_L5 K fu x1 M) := by
  intro fu
  induction fu with
  | zero => intro x1 M; exact x_none
  | succ fu ih =>
    intro x1 M
    rw [md_sum_L5]
    refine x_aloadn C dX12_sum_5 rfl ?_
    refine x_getI C fl_X12_22 cl_11 nM0 kM0 fM0_10 dX12_sum_6 ?_
    refine x_iconst C dX12_sum_9 (v := (-1 : Int32)) (by decide) ?_
    refine x_icmpne C dX12_sum_10 (tgt := 42) (by decide) (fun _h => ?_) (fun _h => ?_)
    · exact x_wk (L' := [none, some (.int x1)]) (And.intro rfl trivial) (hK (x1) (M))
    · refine x_aloadn C dX12_sum_13 rfl ?_
      refine x_bipush C dX12_sum_14 (v := (43 : Int32)) (by decide) ?_
      refine x_Vm (st := []) C (c_md_isSign  ((43 : Int32)) M) lk_X12_159 nM0 kM0 ⟨_, _, rfl⟩ rfl rfl (Nat.le_of_ble_eq_true rfl) (rmok_d (by decide) (by decide)) ⟨Nat.zero_le _, Nat.zero_le _⟩ dX12_sum_16 (fun v4 M3 => ?_)
      refine x_ifeq C dX12_sum_19 (tgt := 42) (by decide) (fun _h => ?_) (fun _h => ?_)
      · exact x_wk (L' := [none, some (.int x1)]) (And.intro rfl trivial) (hK (x1) (M3))
      · refine x_aloadn C dX12_sum_22 rfl ?_
        refine x_dup C dX12_sum_23 rfl ?_
        refine x_getI C fl_X12_88 cl_11 nM0 kM0 fM0_9 dX12_sum_24 ?_
        refine x_iconst C dX12_sum_27 (v := (1 : Int32)) (by decide) ?_
        refine x_iadd C dX12_sum_28 ?_
        refine x_putI C fl_X12_88 cl_11 fint_11_9 nM0 kM0 fM0_9 dX12_sum_29 ?_
        refine x_ltM (fun M5 => ?_)
        refine x_iloadn C dX12_sum_32 (x := x1) rfl ?_
        refine x_aloadn C dX12_sum_33 rfl ?_
        refine x_Vm (st := [.int x1]) C (c_md_part   M5) lk_X12_178 nM0 kM0 ⟨_, _, rfl⟩ rfl rfl (Nat.le_of_ble_eq_true rfl) (rmok_d (by decide) (by decide)) ⟨Nat.zero_le _, Nat.zero_le _⟩ dX12_sum_34 (fun v7 M6 => ?_)
        refine x_iadd C dX12_sum_37 ?_
        refine x_istoren C dX12_sum_38 (L' := [some (.ref ((wM b).2.2.2 + 0)), some (.int (x1 + v7))]) (ltb rfl) rfl ?_
        refine x_goto C dX12_sum_39 (tgt := 5) (by decide) ?_
        exact x_wk (L' := [some (.ref ((wM b).2.2.2 + 0)), some (.int (x1 + v7))]) (And.intro rfl (And.intro rfl trivial)) (ih ((x1 + v7)) (M6))
set_option maxHeartbeats 4000000 in
set_option maxRecDepth 20000 in
theorem c_md_sum {l : Launch} {g : GG} {b : Nat} (M : Mem) : CT l g (wM b) (rmd 8) yX12_sum cX12_sum 2 (some .int) [.ref ((wM b).2.2.2 + 0)] M finM (md_sum  M) := by
  refine CT.of rfl (Nat.le_of_ble_eq_true rfl) (catc rfl cat0) (fun z C => ?_)
  have C : Cx z l g (wM b) (rmd 8) cX12_sum 2 RX12 (some .int) := C
  refine x_wk (L' := [some (.ref ((wM b).2.2.2 + 0)), none]) (And.intro rfl trivial) ?_
  rw [md_sum]
  refine x_aloadn C dX12_sum_0 rfl ?_
  refine x_Vm (st := []) C (c_md_part   M) lk_X12_178 nM0 kM0 ⟨_, _, rfl⟩ rfl rfl (Nat.le_of_ble_eq_true rfl) (rmok_d (by decide) (by decide)) ⟨Nat.zero_le _, Nat.zero_le _⟩ dX12_sum_1 (fun v2 M1 => ?_)
  refine x_istoren C dX12_sum_4 (L' := [some (.ref ((wM b).2.2.2 + 0)), some (.int v2)]) (ltb rfl) rfl ?_
  refine x_wk (L' := [some (.ref ((wM b).2.2.2 + 0)), some (.int v2)]) (And.intro rfl (And.intro rfl trivial)) (w_md_sum_L5 C    (fun v1_7 M9 => ?_) FU (v2) M1)
  refine x_iloadn C dX12_sum_42 (x := v1_7) rfl ?_
  exact x_iret C dX12_sum_43 rfl
def md_plain_J45 (x1 : Int32) (x2 : Int32) (M : Mem) : Option (Int32 × Mem) := lt1 (wr M 0 9 ((M 0 9) + (1 : Int32))) fun M5 => bnd2 (md_sum M5) fun v7 M6 => (if x2 = 0 then (if v7 < x1 then some ((1 : Int32), M6) else some ((0 : Int32), M6)) else (if x1 < v7 then some ((1 : Int32), M6) else some ((0 : Int32), M6)))
def md_plain (M : Mem) : Option (Int32 × Mem) := bnd2 (md_sum M) fun v2 M1 => (if (M1 0 10) = (-1 : Int32) then bnd2 (md_isSign ((60 : Int32)) M1) fun v4 M3 => (if v4 = 0 then bnd2 (md_isSign ((62 : Int32)) M3) fun v9 M8 => (if v9 = 0 then (md_wrong ((M8 0 9)) M8).bind fun M10 => some ((0 : Int32), M10) else md_plain_J45 (v2) (v4) M8) else md_plain_J45 (v2) (v4) M3) else some ((0 : Int32), M1))
set_option maxHeartbeats 4000000 in
set_option maxRecDepth 20000 in
theorem w_md_plain_J45 {z : ZT} {l : Launch} {g : GG} {b : Nat} (C : Cx z l g (wM b) (rmd 9) cX12_plain 4 RX12 (some .boolean))   (x1 : Int32) (x2 : Int32) (M : Mem) : XG z g (wM b) 4 (ZQ z g (wM b) finM) 0 0 45 [some (.ref ((wM b).2.2.2 + 0)), some (.int x1), some (.int x2), none] [] M (md_plain_J45 x1 x2 M) := by
  rw [md_plain_J45]
  refine x_aloadn C dX12_plain_45 rfl ?_
  refine x_dup C dX12_plain_46 rfl ?_
  refine x_getI C fl_X12_88 cl_11 nM0 kM0 fM0_9 dX12_plain_47 ?_
  refine x_iconst C dX12_plain_50 (v := (1 : Int32)) (by decide) ?_
  refine x_iadd C dX12_plain_51 ?_
  refine x_putI C fl_X12_88 cl_11 fint_11_9 nM0 kM0 fM0_9 dX12_plain_52 ?_
  refine x_ltM (fun M5 => ?_)
  refine x_aloadn C dX12_plain_55 rfl ?_
  refine x_Vm (st := []) C (c_md_sum   M5) lk_X12_181 nM0 kM0 ⟨_, _, rfl⟩ rfl rfl (Nat.le_of_ble_eq_true rfl) (rmok_d (by decide) (by decide)) ⟨Nat.zero_le _, Nat.zero_le _⟩ dX12_plain_56 (fun v7 M6 => ?_)
  refine x_istoren C dX12_plain_59 (L' := [some (.ref ((wM b).2.2.2 + 0)), some (.int x1), some (.int x2), some (.int v7)]) (ltb rfl) rfl ?_
  refine x_iloadn C dX12_plain_60 (x := x2) rfl ?_
  refine x_ifeq C dX12_plain_61 (tgt := 77) (by decide) (fun _h => ?_) (fun _h => ?_)
  · refine x_iloadn C dX12_plain_77 (x := x1) rfl ?_
    refine x_iloadn C dX12_plain_78 (x := v7) rfl ?_
    refine x_icmple C dX12_plain_79 (tgt := 86) (by decide) (fun _h => ?_) (fun _h => ?_)
    · refine x_iconst C dX12_plain_86 (v := (0 : Int32)) (by decide) ?_
      exact x_zret C dX12_plain_87 rfl rfl
    · refine x_iconst C dX12_plain_82 (v := (1 : Int32)) (by decide) ?_
      refine x_goto C dX12_plain_83 (tgt := 87) (by decide) ?_
      exact x_zret C dX12_plain_87 rfl rfl
  · refine x_iloadn C dX12_plain_64 (x := x1) rfl ?_
    refine x_iloadn C dX12_plain_65 (x := v7) rfl ?_
    refine x_icmpge C dX12_plain_66 (tgt := 73) (by decide) (fun _h => ?_) (fun _h => ?_)
    · refine x_iconst C dX12_plain_73 (v := (0 : Int32)) (by decide) ?_
      refine x_goto C dX12_plain_74 (tgt := 87) (by decide) ?_
      exact x_zret C dX12_plain_87 rfl rfl
    · refine x_iconst C dX12_plain_69 (v := (1 : Int32)) (by decide) ?_
      refine x_goto C dX12_plain_70 (tgt := 87) (by decide) ?_
      exact x_zret C dX12_plain_87 rfl rfl
set_option maxHeartbeats 4000000 in
set_option maxRecDepth 20000 in
theorem c_md_plain {l : Launch} {g : GG} {b : Nat} (M : Mem) : CT l g (wM b) (rmd 9) yX12_plain cX12_plain 4 (some .boolean) [.ref ((wM b).2.2.2 + 0)] M finM (md_plain  M) := by
  refine CT.of rfl (Nat.le_of_ble_eq_true rfl) (catc rfl cat0) (fun z C => ?_)
  have C : Cx z l g (wM b) (rmd 9) cX12_plain 4 RX12 (some .boolean) := C
  refine x_wk (L' := [some (.ref ((wM b).2.2.2 + 0)), none, none, none]) (And.intro rfl trivial) ?_
  rw [md_plain]
  refine x_aloadn C dX12_plain_0 rfl ?_
  refine x_Vm (st := []) C (c_md_sum   M) lk_X12_181 nM0 kM0 ⟨_, _, rfl⟩ rfl rfl (Nat.le_of_ble_eq_true rfl) (rmok_d (by decide) (by decide)) ⟨Nat.zero_le _, Nat.zero_le _⟩ dX12_plain_1 (fun v2 M1 => ?_)
  refine x_istoren C dX12_plain_4 (L' := [some (.ref ((wM b).2.2.2 + 0)), some (.int v2), none, none]) (ltb rfl) rfl ?_
  refine x_aloadn C dX12_plain_5 rfl ?_
  refine x_getI C fl_X12_22 cl_11 nM0 kM0 fM0_10 dX12_plain_6 ?_
  refine x_iconst C dX12_plain_9 (v := (-1 : Int32)) (by decide) ?_
  refine x_icmpeq C dX12_plain_10 (tgt := 15) (by decide) (fun _h => ?_) (fun _h => ?_)
  · refine x_aloadn C dX12_plain_15 rfl ?_
    refine x_bipush C dX12_plain_16 (v := (60 : Int32)) (by decide) ?_
    refine x_Vm (st := []) C (c_md_isSign  ((60 : Int32)) M1) lk_X12_159 nM0 kM0 ⟨_, _, rfl⟩ rfl rfl (Nat.le_of_ble_eq_true rfl) (rmok_d (by decide) (by decide)) ⟨Nat.zero_le _, Nat.zero_le _⟩ dX12_plain_18 (fun v4 M3 => ?_)
    refine x_istoren C dX12_plain_21 (L' := [some (.ref ((wM b).2.2.2 + 0)), some (.int v2), some (.int v4), none]) (ltb rfl) rfl ?_
    refine x_iloadn C dX12_plain_22 (x := v4) rfl ?_
    refine x_ifne C dX12_plain_23 (tgt := 45) (by decide) (fun _h => ?_) (fun _h => ?_)
    · exact x_wk (L' := [some (.ref ((wM b).2.2.2 + 0)), some (.int v2), some (.int v4), none]) (And.intro rfl (And.intro rfl (And.intro rfl trivial))) (w_md_plain_J45 C   (v2) (v4)  M3)
    · refine x_aloadn C dX12_plain_26 rfl ?_
      refine x_bipush C dX12_plain_27 (v := (62 : Int32)) (by decide) ?_
      refine x_Vm (st := []) C (c_md_isSign  ((62 : Int32)) M3) lk_X12_159 nM0 kM0 ⟨_, _, rfl⟩ rfl rfl (Nat.le_of_ble_eq_true rfl) (rmok_d (by decide) (by decide)) ⟨Nat.zero_le _, Nat.zero_le _⟩ dX12_plain_29 (fun v9 M8 => ?_)
      refine x_ifne C dX12_plain_32 (tgt := 45) (by decide) (fun _h => ?_) (fun _h => ?_)
      · exact x_wk (L' := [some (.ref ((wM b).2.2.2 + 0)), some (.int v2), some (.int v4), none]) (And.intro rfl (And.intro rfl (And.intro rfl trivial))) (w_md_plain_J45 C   (v2) (v4)  M8)
      · refine x_aloadn C dX12_plain_35 rfl ?_
        refine x_aloadn C dX12_plain_36 rfl ?_
        refine x_getI C fl_X12_88 cl_11 nM0 kM0 fM0_9 dX12_plain_37 ?_
        refine x_Vv (st := []) C (c_md_wrong  ((M8 0 9)) M8) lk_X12_109 nM0 kM0 ⟨_, _, rfl⟩ rfl rfl (Nat.le_of_ble_eq_true rfl) (rmok_d (by decide) (by decide)) ⟨Nat.zero_le _, Nat.zero_le _⟩ dX12_plain_40 (fun M10 => ?_)
        refine x_iconst C dX12_plain_43 (v := (0 : Int32)) (by decide) ?_
        exact x_zret C dX12_plain_44 rfl rfl
  · refine x_iconst C dX12_plain_13 (v := (0 : Int32)) (by decide) ?_
    exact x_zret C dX12_plain_14 rfl rfl
def md_atom_J132 (self : Mem → Option (Int32 × Mem)) (x3 : Int32) (M : Mem) : Option (Int32 × Mem) := lt1 (wr M 0 9 ((M 0 9) + (1 : Int32))) fun M8 => lt1 (wr M8 0 11 ((M8 0 11) - (1 : Int32))) fun M9 => chk (isB x3) (some (x3, M9))
def md_atom_J44 (self : Mem → Option (Int32 × Mem)) (x1 : Int32) (x2 : Int32) (M : Mem) : Option (Int32 × Mem) := (if (M 0 11) = (6 : Int32) then (md_wrong (x1) M).bind fun M17 => some ((0 : Int32), M17) else lt1 (wr M 0 11 ((M 0 11) + (1 : Int32))) fun M4 => (if x2 = 0 then lt1 (wr M4 0 9 ((M4 0 9) + (1 : Int32))) fun M5 => bnd2 (md_some self M5) fun v7 M6 => (if (M6 0 10) = (-1 : Int32) then bnd2 (md_isSign ((41 : Int32)) M6) fun v11 M10 => (if v11 = 0 then (md_wrong ((M10 0 9)) M10).bind fun M12 => md_atom_J132 self (v7) M12 else md_atom_J132 self (v7) M10) else md_atom_J132 self (v7) M6) else bnd2 (self M4) fun v14 M13 => (if v14 = 0 then lt1 (wr M13 0 11 ((M13 0 11) - (1 : Int32))) fun M16 => some ((1 : Int32), M16) else lt1 (wr M13 0 11 ((M13 0 11) - (1 : Int32))) fun M15 => some ((0 : Int32), M15))))
def md_atom_S (self : Mem → Option (Int32 × Mem)) (M : Mem) : Option (Int32 × Mem) := (if (M 0 10) = (-1 : Int32) then (md_skip M).bind fun M1 => bnd2 (md_has 12 M1) fun v3 M2 => (if v3 = 0 then bnd2 (md_isSign ((40 : Int32)) M2) fun v19 M18 => (if v19 = 0 then bnd2 (md_plain M18) fun v21 M20 => chk (isB v21) (some (v21, M20)) else md_atom_J44 self ((M1 0 9)) (v3) M18) else md_atom_J44 self ((M1 0 9)) (v3) M2) else some ((0 : Int32), M))
def md_atom : Nat → Mem → Option (Int32 × Mem)
  | 0 => fun _ => none
  | fu + 1 => fun M => md_atom_S (md_atom fu) M
set_option maxHeartbeats 4000000 in
set_option maxRecDepth 20000 in
theorem w_md_atom_J132 {z : ZT} {l : Launch} {g : GG} {b : Nat} {self : Mem → Option (Int32 × Mem)} {ds : Nat} (C : Cx z l g (wM b) (rmd (ds + 10)) cX12_atom 4 RX12 (some .boolean)) (hself : ∀ (M : Mem), CT l g (wM b) (rmd ds) yX12_atom cX12_atom 4 (some .boolean) [.ref ((wM b).2.2.2 + 0)] M finM (self  M))   (x3 : Int32) (M : Mem) : XG z g (wM b) 4 (ZQ z g (wM b) finM) 0 0 132 [some (.ref ((wM b).2.2.2 + 0)), none, none, some (.int x3)] [] M (md_atom_J132 self x3 M) := by
  rw [md_atom_J132]
  refine x_aloadn C dX12_atom_132 rfl ?_
  refine x_dup C dX12_atom_133 rfl ?_
  refine x_getI C fl_X12_88 cl_11 nM0 kM0 fM0_9 dX12_atom_134 ?_
  refine x_iconst C dX12_atom_137 (v := (1 : Int32)) (by decide) ?_
  refine x_iadd C dX12_atom_138 ?_
  refine x_putI C fl_X12_88 cl_11 fint_11_9 nM0 kM0 fM0_9 dX12_atom_139 ?_
  refine x_ltM (fun M8 => ?_)
  refine x_aloadn C dX12_atom_142 rfl ?_
  refine x_dup C dX12_atom_143 rfl ?_
  refine x_getI C fl_X12_150 cl_11 nM0 kM0 fM0_11 dX12_atom_144 ?_
  refine x_iconst C dX12_atom_147 (v := (1 : Int32)) (by decide) ?_
  refine x_isub C dX12_atom_148 ?_
  refine x_putI C fl_X12_150 cl_11 fint_11_11 nM0 kM0 fM0_11 dX12_atom_149 ?_
  refine x_ltM (fun M9 => ?_)
  refine x_iloadn C dX12_atom_152 (x := x3) rfl ?_
  exact x_zretc C dX12_atom_153 rfl
set_option maxHeartbeats 4000000 in
set_option maxRecDepth 20000 in
theorem w_md_atom_J44 {z : ZT} {l : Launch} {g : GG} {b : Nat} {self : Mem → Option (Int32 × Mem)} {ds : Nat} (C : Cx z l g (wM b) (rmd (ds + 10)) cX12_atom 4 RX12 (some .boolean)) (hself : ∀ (M : Mem), CT l g (wM b) (rmd ds) yX12_atom cX12_atom 4 (some .boolean) [.ref ((wM b).2.2.2 + 0)] M finM (self  M))   (x1 : Int32) (x2 : Int32) (M : Mem) : XG z g (wM b) 4 (ZQ z g (wM b) finM) 0 0 44 [some (.ref ((wM b).2.2.2 + 0)), some (.int x1), some (.int x2), none] [] M (md_atom_J44 self x1 x2 M) := by
  rw [md_atom_J44]
  refine x_aloadn C dX12_atom_44 rfl ?_
  refine x_getI C fl_X12_150 cl_11 nM0 kM0 fM0_11 dX12_atom_45 ?_
  refine x_bipush C dX12_atom_48 (v := (6 : Int32)) (by decide) ?_
  refine x_icmpne C dX12_atom_50 (tgt := 60) (by decide) (fun _h => ?_) (fun _h => ?_)
  · refine x_aloadn C dX12_atom_60 rfl ?_
    refine x_dup C dX12_atom_61 rfl ?_
    refine x_getI C fl_X12_150 cl_11 nM0 kM0 fM0_11 dX12_atom_62 ?_
    refine x_iconst C dX12_atom_65 (v := (1 : Int32)) (by decide) ?_
    refine x_iadd C dX12_atom_66 ?_
    refine x_putI C fl_X12_150 cl_11 fint_11_11 nM0 kM0 fM0_11 dX12_atom_67 ?_
    refine x_ltM (fun M4 => ?_)
    refine x_iconst C dX12_atom_70 (v := (0 : Int32)) (by decide) ?_
    refine x_istoren C dX12_atom_71 (L' := [some (.ref ((wM b).2.2.2 + 0)), some (.int x1), some (.int x2), some (.int (0 : Int32))]) (ltb rfl) rfl ?_
    refine x_iloadn C dX12_atom_72 (x := x2) rfl ?_
    refine x_ifeq C dX12_atom_73 (tgt := 92) (by decide) (fun _h => ?_) (fun _h => ?_)
    · refine x_aloadn C dX12_atom_92 rfl ?_
      refine x_dup C dX12_atom_93 rfl ?_
      refine x_getI C fl_X12_88 cl_11 nM0 kM0 fM0_9 dX12_atom_94 ?_
      refine x_iconst C dX12_atom_97 (v := (1 : Int32)) (by decide) ?_
      refine x_iadd C dX12_atom_98 ?_
      refine x_putI C fl_X12_88 cl_11 fint_11_9 nM0 kM0 fM0_9 dX12_atom_99 ?_
      refine x_ltM (fun M5 => ?_)
      refine x_aloadn C dX12_atom_102 rfl ?_
      refine x_Vm (st := []) C (c_md_some hself  M5) lk_X12_193 nM0 kM0 ⟨_, _, rfl⟩ rfl rfl (Nat.le_of_ble_eq_true rfl) (rmok_d (by omega) (by decide)) ⟨Nat.zero_le _, Nat.zero_le _⟩ dX12_atom_103 (fun v7 M6 => ?_)
      refine x_istoren C dX12_atom_106 (L' := [some (.ref ((wM b).2.2.2 + 0)), some (.int x1), some (.int x2), some (.int v7)]) (ltb rfl) rfl ?_
      refine x_aloadn C dX12_atom_107 rfl ?_
      refine x_getI C fl_X12_22 cl_11 nM0 kM0 fM0_10 dX12_atom_108 ?_
      refine x_iconst C dX12_atom_111 (v := (-1 : Int32)) (by decide) ?_
      refine x_icmpne C dX12_atom_112 (tgt := 132) (by decide) (fun _h => ?_) (fun _h => ?_)
      · exact x_wk (L' := [some (.ref ((wM b).2.2.2 + 0)), none, none, some (.int v7)]) (And.intro rfl (And.intro rfl trivial)) (w_md_atom_J132 C hself   (v7)  M6)
      · refine x_aloadn C dX12_atom_115 rfl ?_
        refine x_bipush C dX12_atom_116 (v := (41 : Int32)) (by decide) ?_
        refine x_Vm (st := []) C (c_md_isSign  ((41 : Int32)) M6) lk_X12_159 nM0 kM0 ⟨_, _, rfl⟩ rfl rfl (Nat.le_of_ble_eq_true rfl) (rmok_d (by omega) (by decide)) ⟨Nat.zero_le _, Nat.zero_le _⟩ dX12_atom_118 (fun v11 M10 => ?_)
        refine x_ifne C dX12_atom_121 (tgt := 132) (by decide) (fun _h => ?_) (fun _h => ?_)
        · exact x_wk (L' := [some (.ref ((wM b).2.2.2 + 0)), none, none, some (.int v7)]) (And.intro rfl (And.intro rfl trivial)) (w_md_atom_J132 C hself   (v7)  M10)
        · refine x_aloadn C dX12_atom_124 rfl ?_
          refine x_aloadn C dX12_atom_125 rfl ?_
          refine x_getI C fl_X12_88 cl_11 nM0 kM0 fM0_9 dX12_atom_126 ?_
          refine x_Vv (st := []) C (c_md_wrong  ((M10 0 9)) M10) lk_X12_109 nM0 kM0 ⟨_, _, rfl⟩ rfl rfl (Nat.le_of_ble_eq_true rfl) (rmok_d (by omega) (by decide)) ⟨Nat.zero_le _, Nat.zero_le _⟩ dX12_atom_129 (fun M12 => ?_)
          exact x_wk (L' := [some (.ref ((wM b).2.2.2 + 0)), none, none, some (.int v7)]) (And.intro rfl (And.intro rfl trivial)) (w_md_atom_J132 C hself   (v7)  M12)
    · refine x_aloadn C dX12_atom_76 rfl ?_
      refine x_Vm (st := []) C (hself  M4) lk_X12_190 nM0 kM0 ⟨_, _, rfl⟩ rfl rfl (Nat.le_of_ble_eq_true rfl) (rmok_d (by omega) (by decide)) ⟨Nat.zero_le _, Nat.zero_le _⟩ dX12_atom_77 (fun v14 M13 => ?_)
      refine x_ifne C dX12_atom_80 (tgt := 87) (by decide) (fun _h => ?_) (fun _h => ?_)
      · refine x_iconst C dX12_atom_87 (v := (0 : Int32)) (by decide) ?_
        refine x_istoren C dX12_atom_88 (L' := [some (.ref ((wM b).2.2.2 + 0)), some (.int x1), some (.int x2), some (.int (0 : Int32))]) (ltb rfl) rfl ?_
        refine x_goto C dX12_atom_89 (tgt := 142) (by decide) ?_
        refine x_aloadn C dX12_atom_142 rfl ?_
        refine x_dup C dX12_atom_143 rfl ?_
        refine x_getI C fl_X12_150 cl_11 nM0 kM0 fM0_11 dX12_atom_144 ?_
        refine x_iconst C dX12_atom_147 (v := (1 : Int32)) (by decide) ?_
        refine x_isub C dX12_atom_148 ?_
        refine x_putI C fl_X12_150 cl_11 fint_11_11 nM0 kM0 fM0_11 dX12_atom_149 ?_
        refine x_ltM (fun M15 => ?_)
        refine x_iloadn C dX12_atom_152 (x := (0 : Int32)) rfl ?_
        exact x_zret C dX12_atom_153 rfl rfl
      · refine x_iconst C dX12_atom_83 (v := (1 : Int32)) (by decide) ?_
        refine x_goto C dX12_atom_84 (tgt := 88) (by decide) ?_
        refine x_istoren C dX12_atom_88 (L' := [some (.ref ((wM b).2.2.2 + 0)), some (.int x1), some (.int x2), some (.int (1 : Int32))]) (ltb rfl) rfl ?_
        refine x_goto C dX12_atom_89 (tgt := 142) (by decide) ?_
        refine x_aloadn C dX12_atom_142 rfl ?_
        refine x_dup C dX12_atom_143 rfl ?_
        refine x_getI C fl_X12_150 cl_11 nM0 kM0 fM0_11 dX12_atom_144 ?_
        refine x_iconst C dX12_atom_147 (v := (1 : Int32)) (by decide) ?_
        refine x_isub C dX12_atom_148 ?_
        refine x_putI C fl_X12_150 cl_11 fint_11_11 nM0 kM0 fM0_11 dX12_atom_149 ?_
        refine x_ltM (fun M16 => ?_)
        refine x_iloadn C dX12_atom_152 (x := (1 : Int32)) rfl ?_
        exact x_zret C dX12_atom_153 rfl rfl
  · refine x_aloadn C dX12_atom_53 rfl ?_
    refine x_iloadn C dX12_atom_54 (x := x1) rfl ?_
    refine x_Vv (st := []) C (c_md_wrong  (x1) M) lk_X12_109 nM0 kM0 ⟨_, _, rfl⟩ rfl rfl (Nat.le_of_ble_eq_true rfl) (rmok_d (by omega) (by decide)) ⟨Nat.zero_le _, Nat.zero_le _⟩ dX12_atom_55 (fun M17 => ?_)
    refine x_iconst C dX12_atom_58 (v := (0 : Int32)) (by decide) ?_
    exact x_zret C dX12_atom_59 rfl rfl
set_option maxHeartbeats 4000000 in
set_option maxRecDepth 20000 in
theorem c_md_atom_S {l : Launch} {g : GG} {b : Nat} {self : Mem → Option (Int32 × Mem)} {ds : Nat} (hself : ∀ (M : Mem), CT l g (wM b) (rmd ds) yX12_atom cX12_atom 4 (some .boolean) [.ref ((wM b).2.2.2 + 0)] M finM (self  M)) (M : Mem) : CT l g (wM b) (rmd (ds + 10)) yX12_atom cX12_atom 4 (some .boolean) [.ref ((wM b).2.2.2 + 0)] M finM (md_atom_S self  M) := by
  refine CT.of rfl (Nat.le_of_ble_eq_true rfl) (catc rfl cat0) (fun z C => ?_)
  have C : Cx z l g (wM b) (rmd (ds + 10)) cX12_atom 4 RX12 (some .boolean) := C
  refine x_wk (L' := [some (.ref ((wM b).2.2.2 + 0)), none, none, none]) (And.intro rfl trivial) ?_
  rw [md_atom_S]
  refine x_aloadn C dX12_atom_0 rfl ?_
  refine x_getI C fl_X12_22 cl_11 nM0 kM0 fM0_10 dX12_atom_1 ?_
  refine x_iconst C dX12_atom_4 (v := (-1 : Int32)) (by decide) ?_
  refine x_icmpeq C dX12_atom_5 (tgt := 10) (by decide) (fun _h => ?_) (fun _h => ?_)
  · refine x_aloadn C dX12_atom_10 rfl ?_
    refine x_Vv (st := []) C (c_md_skip   M) lk_X12_97 nM0 kM0 ⟨_, _, rfl⟩ rfl rfl (Nat.le_of_ble_eq_true rfl) (rmok_d (by omega) (by decide)) ⟨Nat.zero_le _, Nat.zero_le _⟩ dX12_atom_11 (fun M1 => ?_)
    refine x_aloadn C dX12_atom_14 rfl ?_
    refine x_getI C fl_X12_88 cl_11 nM0 kM0 fM0_9 dX12_atom_15 ?_
    refine x_istoren C dX12_atom_18 (L' := [some (.ref ((wM b).2.2.2 + 0)), some (.int (M1 0 9)), none, none]) (ltb rfl) rfl ?_
    refine x_aloadn C dX12_atom_19 rfl ?_
    refine x_ldcS C (i := 12) rfl dX12_atom_20 ?_
    refine x_Vm (st := []) C (c_md_has (by decide)  M1) lk_X12_118 nM0 kM0 ⟨_, _, rfl⟩ rfl rfl (Nat.le_of_ble_eq_true rfl) (rmok_d (by omega) (by decide)) ⟨Nat.zero_le _, Nat.zero_le _⟩ dX12_atom_22 (fun v3 M2 => ?_)
    refine x_istoren C dX12_atom_25 (L' := [some (.ref ((wM b).2.2.2 + 0)), some (.int (M1 0 9)), some (.int v3), none]) (ltb rfl) rfl ?_
    refine x_iloadn C dX12_atom_26 (x := v3) rfl ?_
    refine x_ifne C dX12_atom_27 (tgt := 44) (by decide) (fun _h => ?_) (fun _h => ?_)
    · exact x_wk (L' := [some (.ref ((wM b).2.2.2 + 0)), some (.int (M1 0 9)), some (.int v3), none]) (And.intro rfl (And.intro rfl (And.intro rfl trivial))) (w_md_atom_J44 C hself   ((M1 0 9)) (v3)  M2)
    · refine x_aloadn C dX12_atom_30 rfl ?_
      refine x_bipush C dX12_atom_31 (v := (40 : Int32)) (by decide) ?_
      refine x_Vm (st := []) C (c_md_isSign  ((40 : Int32)) M2) lk_X12_159 nM0 kM0 ⟨_, _, rfl⟩ rfl rfl (Nat.le_of_ble_eq_true rfl) (rmok_d (by omega) (by decide)) ⟨Nat.zero_le _, Nat.zero_le _⟩ dX12_atom_33 (fun v19 M18 => ?_)
      refine x_ifne C dX12_atom_36 (tgt := 44) (by decide) (fun _h => ?_) (fun _h => ?_)
      · exact x_wk (L' := [some (.ref ((wM b).2.2.2 + 0)), some (.int (M1 0 9)), some (.int v3), none]) (And.intro rfl (And.intro rfl (And.intro rfl trivial))) (w_md_atom_J44 C hself   ((M1 0 9)) (v3)  M18)
      · refine x_aloadn C dX12_atom_39 rfl ?_
        refine x_Vm (st := []) C (c_md_plain   M18) lk_X12_186 nM0 kM0 ⟨_, _, rfl⟩ rfl rfl (Nat.le_of_ble_eq_true rfl) (rmok_d (by omega) (by decide)) ⟨Nat.zero_le _, Nat.zero_le _⟩ dX12_atom_40 (fun v21 M20 => ?_)
        exact x_zretc C dX12_atom_43 rfl
  · refine x_iconst C dX12_atom_8 (v := (0 : Int32)) (by decide) ?_
    exact x_zret C dX12_atom_9 rfl rfl
theorem c_md_atom {l : Launch} {g : GG} {b : Nat} : ∀ (fu : Nat) (M : Mem), CT l g (wM b) (rmd (1 + 10 * fu)) yX12_atom cX12_atom 4 (some .boolean) [.ref ((wM b).2.2.2 + 0)] M finM (md_atom fu  M)
  | 0, _ => fun _ _ h => by cases h
  | fu + 1, M => c_md_atom_S (ds := 1 + 10 * fu) (c_md_atom fu) M
def md_ruleLine_J39 (x1 : Int32) (s0 : Int32) (M : Mem) : Option Mem := (if (M 0 10) = (-1 : Int32) then (if s0 = 0 then some M else (if (M 0 13) = (-1 : Int32) then lt1 (wr M 0 13 x1) fun M5 => some M5 else some M)) else some M)
def md_ruleLine_J34 (x1 : Int32) (M : Mem) : Option Mem := md_ruleLine_J39 (x1) ((1 : Int32)) M
def md_ruleLine (M : Mem) : Option Mem := bnd2 (md_figures ((0 : Int32)) ((999 : Int32)) M) fun v2 M1 => (if (M1 0 10) = (-1 : Int32) then bnd2 (md_has 11 M1) fun v4 M3 => (if v4 = 0 then md_ruleLine_J34 (v2) M3 else bnd2 (md_some (md_atom FD) M3) fun v7 M6 => (if v7 = 0 then md_ruleLine_J39 (v2) ((0 : Int32)) M6 else md_ruleLine_J34 (v2) M6)) else some M1)
set_option maxHeartbeats 4000000 in
set_option maxRecDepth 20000 in
theorem w_md_ruleLine_J39 {z : ZT} {l : Launch} {g : GG} {b : Nat} (C : Cx z l g (wM b) (rmd 130) cX12_ruleLine 3 RX12 none)   (x1 : Int32) (s0 : Int32) (M : Mem) : XG z g (wM b) 3 (ZQ z g (wM b) finV) 0 0 39 [some (.ref ((wM b).2.2.2 + 0)), some (.int x1), none] [.int s0] M (md_ruleLine_J39 x1 s0 M) := by
  rw [md_ruleLine_J39]
  refine x_istoren C dX12_ruleLine_39 (L' := [some (.ref ((wM b).2.2.2 + 0)), some (.int x1), some (.int s0)]) (ltb rfl) rfl ?_
  refine x_aloadn C dX12_ruleLine_40 rfl ?_
  refine x_getI C fl_X12_22 cl_11 nM0 kM0 fM0_10 dX12_ruleLine_41 ?_
  refine x_iconst C dX12_ruleLine_44 (v := (-1 : Int32)) (by decide) ?_
  refine x_icmpne C dX12_ruleLine_45 (tgt := 65) (by decide) (fun _h => ?_) (fun _h => ?_)
  · exact x_vret C dX12_ruleLine_65 rfl
  · refine x_iloadn C dX12_ruleLine_48 (x := s0) rfl ?_
    refine x_ifeq C dX12_ruleLine_49 (tgt := 65) (by decide) (fun _h => ?_) (fun _h => ?_)
    · exact x_vret C dX12_ruleLine_65 rfl
    · refine x_aloadn C dX12_ruleLine_52 rfl ?_
      refine x_getI C fl_X12_205 cl_11 nM0 kM0 fM0_13 dX12_ruleLine_53 ?_
      refine x_iconst C dX12_ruleLine_56 (v := (-1 : Int32)) (by decide) ?_
      refine x_icmpne C dX12_ruleLine_57 (tgt := 65) (by decide) (fun _h => ?_) (fun _h => ?_)
      · exact x_vret C dX12_ruleLine_65 rfl
      · refine x_aloadn C dX12_ruleLine_60 rfl ?_
        refine x_iloadn C dX12_ruleLine_61 (x := x1) rfl ?_
        refine x_putI C fl_X12_205 cl_11 fint_11_13 nM0 kM0 fM0_13 dX12_ruleLine_62 ?_
        refine x_ltM (fun M5 => ?_)
        exact x_vret C dX12_ruleLine_65 rfl
set_option maxHeartbeats 4000000 in
set_option maxRecDepth 20000 in
theorem w_md_ruleLine_J34 {z : ZT} {l : Launch} {g : GG} {b : Nat} (C : Cx z l g (wM b) (rmd 130) cX12_ruleLine 3 RX12 none)   (x1 : Int32) (M : Mem) : XG z g (wM b) 3 (ZQ z g (wM b) finV) 0 0 34 [some (.ref ((wM b).2.2.2 + 0)), some (.int x1), none] [] M (md_ruleLine_J34 x1 M) := by
  rw [md_ruleLine_J34]
  refine x_iconst C dX12_ruleLine_34 (v := (1 : Int32)) (by decide) ?_
  refine x_goto C dX12_ruleLine_35 (tgt := 39) (by decide) ?_
  exact x_wk (L' := [some (.ref ((wM b).2.2.2 + 0)), some (.int x1), none]) (And.intro rfl (And.intro rfl trivial)) (w_md_ruleLine_J39 C   (x1) ((1 : Int32)) M)
set_option maxHeartbeats 4000000 in
set_option maxRecDepth 20000 in
theorem c_md_ruleLine {l : Launch} {g : GG} {b : Nat} (M : Mem) : CT l g (wM b) (rmd 130) yX12_ruleLine cX12_ruleLine 3 none [.ref ((wM b).2.2.2 + 0)] M finV (md_ruleLine  M) := by
  refine CT.of rfl (Nat.le_of_ble_eq_true rfl) (catc rfl cat0) (fun z C => ?_)
  have C : Cx z l g (wM b) (rmd 130) cX12_ruleLine 3 RX12 none := C
  refine x_wk (L' := [some (.ref ((wM b).2.2.2 + 0)), none, none]) (And.intro rfl trivial) ?_
  rw [md_ruleLine]
  refine x_aloadn C dX12_ruleLine_0 rfl ?_
  refine x_iconst C dX12_ruleLine_1 (v := (0 : Int32)) (by decide) ?_
  refine x_sipush C dX12_ruleLine_2 (v := (999 : Int32)) (by decide) ?_
  refine x_Vm (st := []) C (c_md_figures  ((0 : Int32)) ((999 : Int32)) M) lk_X12_113 nM0 kM0 ⟨_, _, rfl⟩ rfl rfl (Nat.le_of_ble_eq_true rfl) (rmok_d (by decide) (by decide)) ⟨Nat.zero_le _, Nat.zero_le _⟩ dX12_ruleLine_5 (fun v2 M1 => ?_)
  refine x_istoren C dX12_ruleLine_8 (L' := [some (.ref ((wM b).2.2.2 + 0)), some (.int v2), none]) (ltb rfl) rfl ?_
  refine x_aloadn C dX12_ruleLine_9 rfl ?_
  refine x_getI C fl_X12_22 cl_11 nM0 kM0 fM0_10 dX12_ruleLine_10 ?_
  refine x_iconst C dX12_ruleLine_13 (v := (-1 : Int32)) (by decide) ?_
  refine x_icmpeq C dX12_ruleLine_14 (tgt := 18) (by decide) (fun _h => ?_) (fun _h => ?_)
  · refine x_aloadn C dX12_ruleLine_18 rfl ?_
    refine x_ldcS C (i := 11) rfl dX12_ruleLine_19 ?_
    refine x_Vm (st := []) C (c_md_has (by decide)  M1) lk_X12_118 nM0 kM0 ⟨_, _, rfl⟩ rfl rfl (Nat.le_of_ble_eq_true rfl) (rmok_d (by decide) (by decide)) ⟨Nat.zero_le _, Nat.zero_le _⟩ dX12_ruleLine_21 (fun v4 M3 => ?_)
    refine x_ifeq C dX12_ruleLine_24 (tgt := 34) (by decide) (fun _h => ?_) (fun _h => ?_)
    · exact x_wk (L' := [some (.ref ((wM b).2.2.2 + 0)), some (.int v2), none]) (And.intro rfl (And.intro rfl trivial)) (w_md_ruleLine_J34 C   (v2)  M3)
    · refine x_aloadn C dX12_ruleLine_27 rfl ?_
      refine x_Vm (st := []) C (c_md_some (c_md_atom FD)  M3) lk_X12_193 nM0 kM0 ⟨_, _, rfl⟩ rfl rfl (Nat.le_of_ble_eq_true rfl) (rmok_d (by decide) (by decide)) ⟨Nat.zero_le _, Nat.zero_le _⟩ dX12_ruleLine_28 (fun v7 M6 => ?_)
      refine x_ifeq C dX12_ruleLine_31 (tgt := 38) (by decide) (fun _h => ?_) (fun _h => ?_)
      · refine x_iconst C dX12_ruleLine_38 (v := (0 : Int32)) (by decide) ?_
        exact x_wk (L' := [some (.ref ((wM b).2.2.2 + 0)), some (.int v2), none]) (And.intro rfl (And.intro rfl trivial)) (w_md_ruleLine_J39 C   (v2) ((0 : Int32)) M6)
      · exact x_wk (L' := [some (.ref ((wM b).2.2.2 + 0)), some (.int v2), none]) (And.intro rfl (And.intro rfl trivial)) (w_md_ruleLine_J34 C   (v2)  M6)
  · exact x_vret C dX12_ruleLine_17 rfl
def md_read_J80 (p1 : Int32) (rec : Int32 → Int32 → Mem → Option (Int32 × Mem)) (K : Int32 → Mem → Option (Int32 × Mem)) (x2 : Int32) (x3 : Int32) (M : Mem) : Option (Int32 × Mem) := (md_skip M).bind fun M4 => (if (M4 0 10) = (-1 : Int32) then (if (M4 0 9) = (M4 0 8) then rec ((0 : Int32)) ((x3 + (1 : Int32))) (M4) else bnd2 (md_isSign ((59 : Int32)) M4) fun v6 M5 => (if v6 = 0 then (md_wrong ((M5 0 9)) M5).bind fun M7 => rec (x2) ((x3 + (1 : Int32))) (M7) else lt1 (wr M5 0 9 ((M5 0 9) + (1 : Int32))) fun M8 => rec (x2) ((x3 + (1 : Int32))) (M8))) else rec ((0 : Int32)) ((x3 + (1 : Int32))) (M4))
def md_read_J51 (p1 : Int32) (rec : Int32 → Int32 → Mem → Option (Int32 × Mem)) (K : Int32 → Mem → Option (Int32 × Mem)) (x2 : Int32) (x3 : Int32) (s0 : Int32) (s1 : Int32) (M : Mem) : Option (Int32 × Mem) := (if s1 = s0 then (md_wrong ((M 0 9)) M).bind fun M10 => md_read_J80 p1 rec K (x2) (x3) M10 else (if p1 = 0 then (md_riverLine M).bind fun M3 => md_read_J80 p1 rec K (x2) (x3) M3 else (md_ruleLine M).bind fun M9 => md_read_J80 p1 rec K (x2) (x3) M9))
def md_read_L23 (p1 : Int32) (K : Int32 → Mem → Option (Int32 × Mem)) : Nat → Int32 → Int32 → Mem → Option (Int32 × Mem)
  | 0, _, _, _ => none
  | fu + 1, x2, x3, M => (if x2 = 0 then K (x3) (M) else (if (M 0 10) = (-1 : Int32) then (md_skip M).bind fun M2 => (if p1 = 0 then md_read_J51 p1 (fun a2 a3 aM => md_read_L23 p1 K fu a2 a3 aM) K (x2) (x3) ((14 : Int32)) (x3) M2 else md_read_J51 p1 (fun a2 a3 aM => md_read_L23 p1 K fu a2 a3 aM) K (x2) (x3) ((12 : Int32)) (x3) M2) else K (x3) (M)))
def md_read_J20 (p1 : Int32) (s0 : Int32) (M : Mem) : Option (Int32 × Mem) := md_read_L23 p1 (fun v3_10 M12 => some (v3_10, M12)) FU (s0) ((0 : Int32)) M
def md_read (p1 : Int32) (M : Mem) : Option (Int32 × Mem) := (md_skip M).bind fun M1 => (if (M1 0 9) < (M1 0 8) then md_read_J20 p1 ((1 : Int32)) M1 else md_read_J20 p1 ((0 : Int32)) M1)
set_option maxHeartbeats 4000000 in
set_option maxRecDepth 20000 in
theorem w_md_read_J80 {z : ZT} {l : Launch} {g : GG} {b : Nat} (C : Cx z l g (wM b) (rmd 131) cX12_read 4 RX12 (some .int)) (p1 : Int32)  {rec : Int32 → Int32 → Mem → Option (Int32 × Mem)} (hrec : ∀ (u2 : Int32) (u3 : Int32) (M : Mem) , XG z g (wM b) 4 (ZQ z g (wM b) finM) 0 0 23 [some (.ref ((wM b).2.2.2 + 0)), some (.int p1), some (.int u2), some (.int u3)] [] M (rec u2 u3 M)) {K : Int32 → Mem → Option (Int32 × Mem)} (hK : ∀ (u3 : Int32) (M : Mem) , XG z g (wM b) 4 (ZQ z g (wM b) finM) 0 0 144 [none, none, none, some (.int u3)] [] M (K u3 M)) (x2 : Int32) (x3 : Int32) (M : Mem) : XG z g (wM b) 4 (ZQ z g (wM b) finM) 0 0 80 [some (.ref ((wM b).2.2.2 + 0)), some (.int p1), some (.int x2), some (.int x3)] [] M (md_read_J80 p1 rec K x2 x3 M) := by
  rw [md_read_J80]
  refine x_iinc C dX12_read_80 (v := (x3 + (1 : Int32))) rfl rfl (L' := [some (.ref ((wM b).2.2.2 + 0)), some (.int p1), some (.int x2), some (.int (x3 + (1 : Int32)))]) rfl ?_
  refine x_aloadn C dX12_read_83 rfl ?_
  refine x_Vv (st := []) C (c_md_skip   M) lk_X12_97 nM0 kM0 ⟨_, _, rfl⟩ rfl rfl (Nat.le_of_ble_eq_true rfl) (rmok_d (by decide) (by decide)) ⟨Nat.zero_le _, Nat.zero_le _⟩ dX12_read_84 (fun M4 => ?_)
  refine x_aloadn C dX12_read_87 rfl ?_
  refine x_getI C fl_X12_22 cl_11 nM0 kM0 fM0_10 dX12_read_88 ?_
  refine x_iconst C dX12_read_91 (v := (-1 : Int32)) (by decide) ?_
  refine x_icmpne C dX12_read_92 (tgt := 106) (by decide) (fun _h => ?_) (fun _h => ?_)
  · refine x_iconst C dX12_read_106 (v := (0 : Int32)) (by decide) ?_
    refine x_istoren C dX12_read_107 (L' := [some (.ref ((wM b).2.2.2 + 0)), some (.int p1), some (.int (0 : Int32)), some (.int (x3 + (1 : Int32)))]) (ltb rfl) rfl ?_
    refine x_goto C dX12_read_108 (tgt := 23) (by decide) ?_
    exact x_wk (L' := [some (.ref ((wM b).2.2.2 + 0)), some (.int p1), some (.int (0 : Int32)), some (.int (x3 + (1 : Int32)))]) (And.intro rfl (And.intro rfl (And.intro rfl (And.intro rfl trivial)))) (hrec ((0 : Int32)) ((x3 + (1 : Int32))) (M4))
  · refine x_aloadn C dX12_read_95 rfl ?_
    refine x_getI C fl_X12_88 cl_11 nM0 kM0 fM0_9 dX12_read_96 ?_
    refine x_aloadn C dX12_read_99 rfl ?_
    refine x_getI C fl_X12_91 cl_11 nM0 kM0 fM0_8 dX12_read_100 ?_
    refine x_icmpne C dX12_read_103 (tgt := 111) (by decide) (fun _h => ?_) (fun _h => ?_)
    · refine x_aloadn C dX12_read_111 rfl ?_
      refine x_bipush C dX12_read_112 (v := (59 : Int32)) (by decide) ?_
      refine x_Vm (st := []) C (c_md_isSign  ((59 : Int32)) M4) lk_X12_159 nM0 kM0 ⟨_, _, rfl⟩ rfl rfl (Nat.le_of_ble_eq_true rfl) (rmok_d (by decide) (by decide)) ⟨Nat.zero_le _, Nat.zero_le _⟩ dX12_read_114 (fun v6 M5 => ?_)
      refine x_ifeq C dX12_read_117 (tgt := 133) (by decide) (fun _h => ?_) (fun _h => ?_)
      · refine x_aloadn C dX12_read_133 rfl ?_
        refine x_aloadn C dX12_read_134 rfl ?_
        refine x_getI C fl_X12_88 cl_11 nM0 kM0 fM0_9 dX12_read_135 ?_
        refine x_Vv (st := []) C (c_md_wrong  ((M5 0 9)) M5) lk_X12_109 nM0 kM0 ⟨_, _, rfl⟩ rfl rfl (Nat.le_of_ble_eq_true rfl) (rmok_d (by decide) (by decide)) ⟨Nat.zero_le _, Nat.zero_le _⟩ dX12_read_138 (fun M7 => ?_)
        refine x_goto C dX12_read_141 (tgt := 23) (by decide) ?_
        exact x_wk (L' := [some (.ref ((wM b).2.2.2 + 0)), some (.int p1), some (.int x2), some (.int (x3 + (1 : Int32)))]) (And.intro rfl (And.intro rfl (And.intro rfl (And.intro rfl trivial)))) (hrec (x2) ((x3 + (1 : Int32))) (M7))
      · refine x_aloadn C dX12_read_120 rfl ?_
        refine x_dup C dX12_read_121 rfl ?_
        refine x_getI C fl_X12_88 cl_11 nM0 kM0 fM0_9 dX12_read_122 ?_
        refine x_iconst C dX12_read_125 (v := (1 : Int32)) (by decide) ?_
        refine x_iadd C dX12_read_126 ?_
        refine x_putI C fl_X12_88 cl_11 fint_11_9 nM0 kM0 fM0_9 dX12_read_127 ?_
        refine x_ltM (fun M8 => ?_)
        refine x_goto C dX12_read_130 (tgt := 23) (by decide) ?_
        exact x_wk (L' := [some (.ref ((wM b).2.2.2 + 0)), some (.int p1), some (.int x2), some (.int (x3 + (1 : Int32)))]) (And.intro rfl (And.intro rfl (And.intro rfl (And.intro rfl trivial)))) (hrec (x2) ((x3 + (1 : Int32))) (M8))
    · refine x_iconst C dX12_read_106 (v := (0 : Int32)) (by decide) ?_
      refine x_istoren C dX12_read_107 (L' := [some (.ref ((wM b).2.2.2 + 0)), some (.int p1), some (.int (0 : Int32)), some (.int (x3 + (1 : Int32)))]) (ltb rfl) rfl ?_
      refine x_goto C dX12_read_108 (tgt := 23) (by decide) ?_
      exact x_wk (L' := [some (.ref ((wM b).2.2.2 + 0)), some (.int p1), some (.int (0 : Int32)), some (.int (x3 + (1 : Int32)))]) (And.intro rfl (And.intro rfl (And.intro rfl (And.intro rfl trivial)))) (hrec ((0 : Int32)) ((x3 + (1 : Int32))) (M4))
set_option maxHeartbeats 4000000 in
set_option maxRecDepth 20000 in
theorem w_md_read_J51 {z : ZT} {l : Launch} {g : GG} {b : Nat} (C : Cx z l g (wM b) (rmd 131) cX12_read 4 RX12 (some .int)) (p1 : Int32)  {rec : Int32 → Int32 → Mem → Option (Int32 × Mem)} (hrec : ∀ (u2 : Int32) (u3 : Int32) (M : Mem) , XG z g (wM b) 4 (ZQ z g (wM b) finM) 0 0 23 [some (.ref ((wM b).2.2.2 + 0)), some (.int p1), some (.int u2), some (.int u3)] [] M (rec u2 u3 M)) {K : Int32 → Mem → Option (Int32 × Mem)} (hK : ∀ (u3 : Int32) (M : Mem) , XG z g (wM b) 4 (ZQ z g (wM b) finM) 0 0 144 [none, none, none, some (.int u3)] [] M (K u3 M)) (x2 : Int32) (x3 : Int32) (s0 : Int32) (s1 : Int32) (M : Mem) : XG z g (wM b) 4 (ZQ z g (wM b) finM) 0 0 51 [some (.ref ((wM b).2.2.2 + 0)), some (.int p1), some (.int x2), some (.int x3)] [.int s0, .int s1] M (md_read_J51 p1 rec K x2 x3 s0 s1 M) := by
  rw [md_read_J51]
  refine x_icmpne C dX12_read_51 (tgt := 65) (by decide) (fun _h => ?_) (fun _h => ?_)
  · refine x_iloadn C dX12_read_65 (x := p1) rfl ?_
    refine x_ifeq C dX12_read_66 (tgt := 76) (by decide) (fun _h => ?_) (fun _h => ?_)
    · refine x_aloadn C dX12_read_76 rfl ?_
      refine x_Vv (st := []) C (c_md_riverLine   M) lk_X12_156 nM0 kM0 ⟨_, _, rfl⟩ rfl rfl (Nat.le_of_ble_eq_true rfl) (rmok_d (by decide) (by decide)) ⟨Nat.zero_le _, Nat.zero_le _⟩ dX12_read_77 (fun M3 => ?_)
      exact x_wk (L' := [some (.ref ((wM b).2.2.2 + 0)), some (.int p1), some (.int x2), some (.int x3)]) (And.intro rfl (And.intro rfl (And.intro rfl (And.intro rfl trivial)))) (w_md_read_J80 C p1  hrec hK (x2) (x3)  M3)
    · refine x_aloadn C dX12_read_69 rfl ?_
      refine x_Vv (st := []) C (c_md_ruleLine   M) lk_X12_153 nM0 kM0 ⟨_, _, rfl⟩ rfl rfl (Nat.le_of_ble_eq_true rfl) (rmok_d (by decide) (by decide)) ⟨Nat.zero_le _, Nat.zero_le _⟩ dX12_read_70 (fun M9 => ?_)
      refine x_goto C dX12_read_73 (tgt := 80) (by decide) ?_
      exact x_wk (L' := [some (.ref ((wM b).2.2.2 + 0)), some (.int p1), some (.int x2), some (.int x3)]) (And.intro rfl (And.intro rfl (And.intro rfl (And.intro rfl trivial)))) (w_md_read_J80 C p1  hrec hK (x2) (x3)  M9)
  · refine x_aloadn C dX12_read_54 rfl ?_
    refine x_aloadn C dX12_read_55 rfl ?_
    refine x_getI C fl_X12_88 cl_11 nM0 kM0 fM0_9 dX12_read_56 ?_
    refine x_Vv (st := []) C (c_md_wrong  ((M 0 9)) M) lk_X12_109 nM0 kM0 ⟨_, _, rfl⟩ rfl rfl (Nat.le_of_ble_eq_true rfl) (rmok_d (by decide) (by decide)) ⟨Nat.zero_le _, Nat.zero_le _⟩ dX12_read_59 (fun M10 => ?_)
    refine x_goto C dX12_read_62 (tgt := 80) (by decide) ?_
    exact x_wk (L' := [some (.ref ((wM b).2.2.2 + 0)), some (.int p1), some (.int x2), some (.int x3)]) (And.intro rfl (And.intro rfl (And.intro rfl (And.intro rfl trivial)))) (w_md_read_J80 C p1  hrec hK (x2) (x3)  M10)
set_option maxHeartbeats 4000000 in
set_option maxRecDepth 20000 in
theorem w_md_read_L23 {z : ZT} {l : Launch} {g : GG} {b : Nat} (C : Cx z l g (wM b) (rmd 131) cX12_read 4 RX12 (some .int)) (p1 : Int32) {K : Int32 → Mem → Option (Int32 × Mem)} (hK : ∀ (x3 : Int32) (M : Mem) , XG z g (wM b) 4 (ZQ z g (wM b) finM) 0 0 144 [none, none, none, some (.int x3)] [] M (K x3 M)) : ∀ (fu : Nat) (x2 : Int32) (x3 : Int32) (M : Mem), XG z g (wM b) 4 (ZQ z g (wM b) finM) 0 0 23 [some (.ref ((wM b).2.2.2 + 0)), some (.int p1), some (.int x2), some (.int x3)] [] M (md_read_L23 p1 K fu x2 x3 M) := by
  intro fu
  induction fu with
  | zero => intro x2 x3 M; exact x_none
  | succ fu ih =>
    intro x2 x3 M
    rw [md_read_L23]
    refine x_iloadn C dX12_read_23 (x := x2) rfl ?_
    refine x_ifeq C dX12_read_24 (tgt := 144) (by decide) (fun _h => ?_) (fun _h => ?_)
    · exact x_wk (L' := [none, none, none, some (.int x3)]) (And.intro rfl trivial) (hK (x3) (M))
    · refine x_aloadn C dX12_read_27 rfl ?_
      refine x_getI C fl_X12_22 cl_11 nM0 kM0 fM0_10 dX12_read_28 ?_
      refine x_iconst C dX12_read_31 (v := (-1 : Int32)) (by decide) ?_
      refine x_icmpne C dX12_read_32 (tgt := 144) (by decide) (fun _h => ?_) (fun _h => ?_)
      · exact x_wk (L' := [none, none, none, some (.int x3)]) (And.intro rfl trivial) (hK (x3) (M))
      · refine x_aloadn C dX12_read_35 rfl ?_
        refine x_Vv (st := []) C (c_md_skip   M) lk_X12_97 nM0 kM0 ⟨_, _, rfl⟩ rfl rfl (Nat.le_of_ble_eq_true rfl) (rmok_d (by decide) (by decide)) ⟨Nat.zero_le _, Nat.zero_le _⟩ dX12_read_36 (fun M2 => ?_)
        refine x_iloadn C dX12_read_39 (x := x3) rfl ?_
        refine x_iloadn C dX12_read_40 (x := p1) rfl ?_
        refine x_ifeq C dX12_read_41 (tgt := 49) (by decide) (fun _h => ?_) (fun _h => ?_)
        · refine x_bipush C dX12_read_49 (v := (14 : Int32)) (by decide) ?_
          exact x_wk (L' := [some (.ref ((wM b).2.2.2 + 0)), some (.int p1), some (.int x2), some (.int x3)]) (And.intro rfl (And.intro rfl (And.intro rfl (And.intro rfl trivial)))) (w_md_read_J51 C p1  ih hK (x2) (x3) ((14 : Int32)) (x3) M2)
        · refine x_bipush C dX12_read_44 (v := (12 : Int32)) (by decide) ?_
          refine x_goto C dX12_read_46 (tgt := 51) (by decide) ?_
          exact x_wk (L' := [some (.ref ((wM b).2.2.2 + 0)), some (.int p1), some (.int x2), some (.int x3)]) (And.intro rfl (And.intro rfl (And.intro rfl (And.intro rfl trivial)))) (w_md_read_J51 C p1  ih hK (x2) (x3) ((12 : Int32)) (x3) M2)
set_option maxHeartbeats 4000000 in
set_option maxRecDepth 20000 in
theorem w_md_read_J20 {z : ZT} {l : Launch} {g : GG} {b : Nat} (C : Cx z l g (wM b) (rmd 131) cX12_read 4 RX12 (some .int)) (p1 : Int32)  (s0 : Int32) (M : Mem) : XG z g (wM b) 4 (ZQ z g (wM b) finM) 0 0 20 [some (.ref ((wM b).2.2.2 + 0)), some (.int p1), none, none] [.int s0] M (md_read_J20 p1 s0 M) := by
  rw [md_read_J20]
  refine x_istoren C dX12_read_20 (L' := [some (.ref ((wM b).2.2.2 + 0)), some (.int p1), some (.int s0), none]) (ltb rfl) rfl ?_
  refine x_iconst C dX12_read_21 (v := (0 : Int32)) (by decide) ?_
  refine x_istoren C dX12_read_22 (L' := [some (.ref ((wM b).2.2.2 + 0)), some (.int p1), some (.int s0), some (.int (0 : Int32))]) (ltb rfl) rfl ?_
  refine x_wk (L' := [some (.ref ((wM b).2.2.2 + 0)), some (.int p1), some (.int s0), some (.int (0 : Int32))]) (And.intro rfl (And.intro rfl (And.intro rfl (And.intro rfl trivial)))) (w_md_read_L23 C p1   (fun v3_10 M12 => ?_) FU (s0) ((0 : Int32)) M)
  refine x_iloadn C dX12_read_144 (x := v3_10) rfl ?_
  exact x_iret C dX12_read_145 rfl
set_option maxHeartbeats 4000000 in
set_option maxRecDepth 20000 in
theorem c_md_read {l : Launch} {g : GG} {b : Nat} (p1 : Int32) (M : Mem) : CT l g (wM b) (rmd 131) yX12_read cX12_read 4 (some .int) [.ref ((wM b).2.2.2 + 0), .int p1] M finM (md_read p1 M) := by
  refine CT.of rfl (Nat.le_of_ble_eq_true rfl) (catc rfl (catc rfl cat0)) (fun z C => ?_)
  have C : Cx z l g (wM b) (rmd 131) cX12_read 4 RX12 (some .int) := C
  refine x_wk (L' := [some (.ref ((wM b).2.2.2 + 0)), some (.int p1), none, none]) (And.intro rfl (And.intro rfl trivial)) ?_
  rw [md_read]
  refine x_aloadn C dX12_read_0 rfl ?_
  refine x_Vv (st := []) C (c_md_skip   M) lk_X12_97 nM0 kM0 ⟨_, _, rfl⟩ rfl rfl (Nat.le_of_ble_eq_true rfl) (rmok_d (by decide) (by decide)) ⟨Nat.zero_le _, Nat.zero_le _⟩ dX12_read_1 (fun M1 => ?_)
  refine x_aloadn C dX12_read_4 rfl ?_
  refine x_getI C fl_X12_88 cl_11 nM0 kM0 fM0_9 dX12_read_5 ?_
  refine x_aloadn C dX12_read_8 rfl ?_
  refine x_getI C fl_X12_91 cl_11 nM0 kM0 fM0_8 dX12_read_9 ?_
  refine x_icmpge C dX12_read_12 (tgt := 19) (by decide) (fun _h => ?_) (fun _h => ?_)
  · refine x_iconst C dX12_read_19 (v := (0 : Int32)) (by decide) ?_
    exact x_wk (L' := [some (.ref ((wM b).2.2.2 + 0)), some (.int p1), none, none]) (And.intro rfl (And.intro rfl trivial)) (w_md_read_J20 C p1   ((0 : Int32)) M1)
  · refine x_iconst C dX12_read_15 (v := (1 : Int32)) (by decide) ?_
    refine x_goto C dX12_read_16 (tgt := 20) (by decide) ?_
    exact x_wk (L' := [some (.ref ((wM b).2.2.2 + 0)), some (.int p1), none, none]) (And.intro rfl (And.intro rfl trivial)) (w_md_read_J20 C p1   ((1 : Int32)) M1)
def md_river_L2  (K : Mem → Option (Int32 × Mem)) : Nat → Int32 → Mem → Option (Int32 × Mem)
  | 0, _, _ => none
  | fu + 1, x1, M => (if x1 < (248 : Int32) then chk (inb x1 648) (chk (inb x1 248) (lt1 (wr M 3 x1.toNatClampNeg (M 1 x1.toNatClampNeg)) fun M1 => md_river_L2 K fu ((x1 + (1 : Int32))) (M1))) else K (M))
def md_river_L78  (K : Mem → Option (Int32 × Mem)) : Nat → Int32 → Mem → Option (Int32 × Mem)
  | 0, _, _ => none
  | fu + 1, x1, M => (if x1 < (248 : Int32) then chk (inb x1 248) (chk (inb x1 648) (lt1 (wr M 1 x1.toNatClampNeg (M 3 x1.toNatClampNeg)) fun M9 => md_river_L78 K fu ((x1 + (1 : Int32))) (M9))) else K (M))
def md_river_J66 (s0 : Int32) (M : Mem) : Option (Int32 × Mem) := lt1 (wr M 0 0 s0) fun M7 => (if 0 < (M7 0 0) then md_river_L78 (fun M11 => some ((0 : Int32), M11)) FU ((0 : Int32)) M7 else lt1 (wr M7 1 0 ((M7 1 0) + (1 : Int32))) fun M8 => some ((M8 1 0), M8))
def md_river (M : Mem) : Option (Int32 × Mem) := md_river_L2 (fun M3 => (md_begins M3).bind fun M4 => bnd2 (md_read ((0 : Int32)) M4) fun v6 M5 => (if (M5 0 10) = (-1 : Int32) then (if (M5 1 0) = (10 : Int32) then md_river_J66 ((2 : Int32)) M5 else md_river_J66 ((0 : Int32)) M5) else md_river_J66 ((1 : Int32)) M5)) FU ((0 : Int32)) M
set_option maxHeartbeats 4000000 in
set_option maxRecDepth 20000 in
theorem w_md_river_L2 {z : ZT} {l : Launch} {g : GG} {b : Nat} (C : Cx z l g (wM b) (rmd 132) cX12_river 2 RX12 (some .int))  {K : Mem → Option (Int32 × Mem)} (hK : ∀ (M : Mem) , XG z g (wM b) 2 (ZQ z g (wM b) finM) 0 0 27 [some (.ref ((wM b).2.2.2 + 0)), none] [] M (K M)) : ∀ (fu : Nat) (x1 : Int32) (M : Mem), XG z g (wM b) 2 (ZQ z g (wM b) finM) 0 0 2 [some (.ref ((wM b).2.2.2 + 0)), some (.int x1)] [] M (md_river_L2 K fu x1 M) := by
  intro fu
  induction fu with
  | zero => intro x1 M; exact x_none
  | succ fu ih =>
    intro x1 M
    rw [md_river_L2]
    refine x_iloadn C dX12_river_2 (x := x1) rfl ?_
    refine x_sipush C dX12_river_3 (v := (248 : Int32)) (by decide) ?_
    refine x_icmpge C dX12_river_6 (tgt := 27) (by decide) (fun _h => ?_) (fun _h => ?_)
    · exact x_wk (L' := [some (.ref ((wM b).2.2.2 + 0)), none]) (And.intro rfl trivial) (hK (M))
    · refine x_aloadn C dX12_river_9 rfl ?_
      refine x_getR C fl_X12_16 cl_11 (3) nM0 kM0 fM0_4 dX12_river_10 ?_
      refine x_iloadn C dX12_river_13 (x := x1) rfl ?_
      refine x_aloadn C dX12_river_14 rfl ?_
      refine x_getR C fl_X12_7 cl_11 (1) nM0 kM0 fM0_1 dX12_river_15 ?_
      refine x_iloadn C dX12_river_18 (x := x1) rfl ?_
      refine x_iald C nM1 kM1 dX12_river_19 ?_
      refine x_iast C nM3 kM3 dX12_river_20 ?_
      refine x_ltM (fun M1 => ?_)
      refine x_iinc C dX12_river_21 (v := (x1 + (1 : Int32))) rfl rfl (L' := [some (.ref ((wM b).2.2.2 + 0)), some (.int (x1 + (1 : Int32)))]) rfl ?_
      refine x_goto C dX12_river_24 (tgt := 2) (by decide) ?_
      exact x_wk (L' := [some (.ref ((wM b).2.2.2 + 0)), some (.int (x1 + (1 : Int32)))]) (And.intro rfl (And.intro rfl trivial)) (ih ((x1 + (1 : Int32))) (M1))
set_option maxHeartbeats 4000000 in
set_option maxRecDepth 20000 in
theorem w_md_river_L78 {z : ZT} {l : Launch} {g : GG} {b : Nat} (C : Cx z l g (wM b) (rmd 132) cX12_river 2 RX12 (some .int))  {K : Mem → Option (Int32 × Mem)} (hK : ∀ (M : Mem) , XG z g (wM b) 2 (ZQ z g (wM b) finM) 0 0 103 [none, none] [] M (K M)) : ∀ (fu : Nat) (x1 : Int32) (M : Mem), XG z g (wM b) 2 (ZQ z g (wM b) finM) 0 0 78 [some (.ref ((wM b).2.2.2 + 0)), some (.int x1)] [] M (md_river_L78 K fu x1 M) := by
  intro fu
  induction fu with
  | zero => intro x1 M; exact x_none
  | succ fu ih =>
    intro x1 M
    rw [md_river_L78]
    refine x_iloadn C dX12_river_78 (x := x1) rfl ?_
    refine x_sipush C dX12_river_79 (v := (248 : Int32)) (by decide) ?_
    refine x_icmpge C dX12_river_82 (tgt := 103) (by decide) (fun _h => ?_) (fun _h => ?_)
    · exact x_wk (L' := [none, none]) (trivial) (hK (M))
    · refine x_aloadn C dX12_river_85 rfl ?_
      refine x_getR C fl_X12_7 cl_11 (1) nM0 kM0 fM0_1 dX12_river_86 ?_
      refine x_iloadn C dX12_river_89 (x := x1) rfl ?_
      refine x_aloadn C dX12_river_90 rfl ?_
      refine x_getR C fl_X12_16 cl_11 (3) nM0 kM0 fM0_4 dX12_river_91 ?_
      refine x_iloadn C dX12_river_94 (x := x1) rfl ?_
      refine x_iald C nM3 kM3 dX12_river_95 ?_
      refine x_iast C nM1 kM1 dX12_river_96 ?_
      refine x_ltM (fun M9 => ?_)
      refine x_iinc C dX12_river_97 (v := (x1 + (1 : Int32))) rfl rfl (L' := [some (.ref ((wM b).2.2.2 + 0)), some (.int (x1 + (1 : Int32)))]) rfl ?_
      refine x_goto C dX12_river_100 (tgt := 78) (by decide) ?_
      exact x_wk (L' := [some (.ref ((wM b).2.2.2 + 0)), some (.int (x1 + (1 : Int32)))]) (And.intro rfl (And.intro rfl trivial)) (ih ((x1 + (1 : Int32))) (M9))
set_option maxHeartbeats 4000000 in
set_option maxRecDepth 20000 in
theorem w_md_river_J66 {z : ZT} {l : Launch} {g : GG} {b : Nat} (C : Cx z l g (wM b) (rmd 132) cX12_river 2 RX12 (some .int))   (s0 : Int32) (M : Mem) : XG z g (wM b) 2 (ZQ z g (wM b) finM) 0 0 66 [some (.ref ((wM b).2.2.2 + 0)), none] [.int s0, .ref ((wM b).2.2.2 + 0)] M (md_river_J66 s0 M) := by
  rw [md_river_J66]
  refine x_putI C fl_X12_59 cl_11 fint_11_0 nM0 kM0 fM0_0 dX12_river_66 ?_
  refine x_ltM (fun M7 => ?_)
  refine x_aloadn C dX12_river_69 rfl ?_
  refine x_getI C fl_X12_59 cl_11 nM0 kM0 fM0_0 dX12_river_70 ?_
  refine x_ifle C dX12_river_73 (tgt := 105) (by decide) (fun _h => ?_) (fun _h => ?_)
  · refine x_aloadn C dX12_river_105 rfl ?_
    refine x_getR C fl_X12_7 cl_11 (1) nM0 kM0 fM0_1 dX12_river_106 ?_
    refine x_iconst C dX12_river_109 (v := (0 : Int32)) (by decide) ?_
    refine x_dup2 C dX12_river_110 rfl rfl ?_
    refine x_ialdj C nM1 kM1 (j := 0) (by decide) (by decide) dX12_river_111 ?_
    refine x_iconst C dX12_river_112 (v := (1 : Int32)) (by decide) ?_
    refine x_iadd C dX12_river_113 ?_
    refine x_iastj C nM1 kM1 (j := 0) (by decide) (by decide) dX12_river_114 ?_
    refine x_ltM (fun M8 => ?_)
    refine x_aloadn C dX12_river_115 rfl ?_
    refine x_getR C fl_X12_7 cl_11 (1) nM0 kM0 fM0_1 dX12_river_116 ?_
    refine x_iconst C dX12_river_119 (v := (0 : Int32)) (by decide) ?_
    refine x_ialdj C nM1 kM1 (j := 0) (by decide) (by decide) dX12_river_120 ?_
    exact x_iret C dX12_river_121 rfl
  · refine x_iconst C dX12_river_76 (v := (0 : Int32)) (by decide) ?_
    refine x_istoren C dX12_river_77 (L' := [some (.ref ((wM b).2.2.2 + 0)), some (.int (0 : Int32))]) (ltb rfl) rfl ?_
    refine x_wk (L' := [some (.ref ((wM b).2.2.2 + 0)), some (.int (0 : Int32))]) (And.intro rfl (And.intro rfl trivial)) (w_md_river_L78 C    (fun M11 => ?_) FU ((0 : Int32)) M7)
    refine x_iconst C dX12_river_103 (v := (0 : Int32)) (by decide) ?_
    exact x_iret C dX12_river_104 rfl
set_option maxHeartbeats 4000000 in
set_option maxRecDepth 20000 in
theorem c_md_river {l : Launch} {g : GG} {b : Nat} (M : Mem) : CT l g (wM b) (rmd 132) yX12_river cX12_river 2 (some .int) [.ref ((wM b).2.2.2 + 0)] M finM (md_river  M) := by
  refine CT.of rfl (Nat.le_of_ble_eq_true rfl) (catc rfl cat0) (fun z C => ?_)
  have C : Cx z l g (wM b) (rmd 132) cX12_river 2 RX12 (some .int) := C
  refine x_wk (L' := [some (.ref ((wM b).2.2.2 + 0)), none]) (And.intro rfl trivial) ?_
  rw [md_river]
  refine x_iconst C dX12_river_0 (v := (0 : Int32)) (by decide) ?_
  refine x_istoren C dX12_river_1 (L' := [some (.ref ((wM b).2.2.2 + 0)), some (.int (0 : Int32))]) (ltb rfl) rfl ?_
  refine x_wk (L' := [some (.ref ((wM b).2.2.2 + 0)), some (.int (0 : Int32))]) (And.intro rfl (And.intro rfl trivial)) (w_md_river_L2 C    (fun M3 => ?_) FU ((0 : Int32)) M)
  refine x_aloadn C dX12_river_27 rfl ?_
  refine x_Vv (st := []) C (c_md_begins   M3) lk_X12_163 nM0 kM0 ⟨_, _, rfl⟩ rfl rfl (Nat.le_of_ble_eq_true rfl) (rmok_d (by decide) (by decide)) ⟨Nat.zero_le _, Nat.zero_le _⟩ dX12_river_28 (fun M4 => ?_)
  refine x_aloadn C dX12_river_31 rfl ?_
  refine x_iconst C dX12_river_32 (v := (0 : Int32)) (by decide) ?_
  refine x_Vm (st := []) C (c_md_read  ((0 : Int32)) M4) lk_X12_166 nM0 kM0 ⟨_, _, rfl⟩ rfl rfl (Nat.le_of_ble_eq_true rfl) (rmok_d (by decide) (by decide)) ⟨Nat.zero_le _, Nat.zero_le _⟩ dX12_river_33 (fun v6 M5 => ?_)
  refine x_pop C dX12_river_36 rfl ?_
  refine x_aloadn C dX12_river_37 rfl ?_
  refine x_aloadn C dX12_river_38 rfl ?_
  refine x_getI C fl_X12_22 cl_11 nM0 kM0 fM0_10 dX12_river_39 ?_
  refine x_iconst C dX12_river_42 (v := (-1 : Int32)) (by decide) ?_
  refine x_icmpeq C dX12_river_43 (tgt := 50) (by decide) (fun _h => ?_) (fun _h => ?_)
  · refine x_aloadn C dX12_river_50 rfl ?_
    refine x_getR C fl_X12_7 cl_11 (1) nM0 kM0 fM0_1 dX12_river_51 ?_
    refine x_iconst C dX12_river_54 (v := (0 : Int32)) (by decide) ?_
    refine x_ialdj C nM1 kM1 (j := 0) (by decide) (by decide) dX12_river_55 ?_
    refine x_bipush C dX12_river_56 (v := (10 : Int32)) (by decide) ?_
    refine x_icmpne C dX12_river_58 (tgt := 65) (by decide) (fun _h => ?_) (fun _h => ?_)
    · refine x_iconst C dX12_river_65 (v := (0 : Int32)) (by decide) ?_
      exact x_wk (L' := [some (.ref ((wM b).2.2.2 + 0)), none]) (And.intro rfl trivial) (w_md_river_J66 C    ((0 : Int32)) M5)
    · refine x_iconst C dX12_river_61 (v := (2 : Int32)) (by decide) ?_
      refine x_goto C dX12_river_62 (tgt := 66) (by decide) ?_
      exact x_wk (L' := [some (.ref ((wM b).2.2.2 + 0)), none]) (And.intro rfl trivial) (w_md_river_J66 C    ((2 : Int32)) M5)
  · refine x_iconst C dX12_river_46 (v := (1 : Int32)) (by decide) ?_
    refine x_goto C dX12_river_47 (tgt := 66) (by decide) ?_
    exact x_wk (L' := [some (.ref ((wM b).2.2.2 + 0)), none]) (And.intro rfl trivial) (w_md_river_J66 C    ((1 : Int32)) M5)
def md_rule_L62 (y1 : Int32) (K : Mem → Option (Int32 × Mem)) : Nat → Int32 → Mem → Option (Int32 × Mem)
  | 0, _, _ => none
  | fu + 1, x2, M => (if x2 < (M 0 8) then chk (inb x2 400) (chk (inb ((248 : Int32) + x2) 648) (lt1 (wr M 1 ((248 : Int32) + x2).toNatClampNeg (M 4 x2.toNatClampNeg)) fun M8 => md_rule_L62 y1 K fu ((x2 + (1 : Int32))) (M8))) else K (M))
def md_rule_J29 (x1 : Int32) (s0 : Int32) (M : Mem) : Option (Int32 × Mem) := lt1 (wr M 0 0 s0) fun M5 => (if 0 < (M5 0 0) then some ((0 : Int32), M5) else lt1 (wr M5 1 8 x1) fun M6 => lt1 (wr M6 1 9 (M6 0 8)) fun M7 => md_rule_L62 (x1) (fun M10 => some (x1, M10)) FU ((0 : Int32)) M7)
def md_rule (M : Mem) : Option (Int32 × Mem) := (md_begins M).bind fun M1 => lt1 (wr M1 0 13 (-1 : Int32)) fun M2 => bnd2 (md_read ((1 : Int32)) M2) fun v4 M3 => (if (M3 0 10) = (-1 : Int32) then md_rule_J29 (v4) ((0 : Int32)) M3 else md_rule_J29 (v4) ((1 : Int32)) M3)
set_option maxHeartbeats 4000000 in
set_option maxRecDepth 20000 in
theorem w_md_rule_L62 {z : ZT} {l : Launch} {g : GG} {b : Nat} (C : Cx z l g (wM b) (rmd 132) cX12_rule 3 RX12 (some .int)) (y1 : Int32) {K : Mem → Option (Int32 × Mem)} (hK : ∀ (M : Mem) , XG z g (wM b) 3 (ZQ z g (wM b) finM) 0 0 92 [none, some (.int y1), none] [] M (K M)) : ∀ (fu : Nat) (x2 : Int32) (M : Mem), XG z g (wM b) 3 (ZQ z g (wM b) finM) 0 0 62 [some (.ref ((wM b).2.2.2 + 0)), some (.int y1), some (.int x2)] [] M (md_rule_L62 y1 K fu x2 M) := by
  intro fu
  induction fu with
  | zero => intro x2 M; exact x_none
  | succ fu ih =>
    intro x2 M
    rw [md_rule_L62]
    refine x_iloadn C dX12_rule_62 (x := x2) rfl ?_
    refine x_aloadn C dX12_rule_63 rfl ?_
    refine x_getI C fl_X12_91 cl_11 nM0 kM0 fM0_8 dX12_rule_64 ?_
    refine x_icmpge C dX12_rule_67 (tgt := 92) (by decide) (fun _h => ?_) (fun _h => ?_)
    · exact x_wk (L' := [none, some (.int y1), none]) (And.intro rfl trivial) (hK (M))
    · refine x_aloadn C dX12_rule_70 rfl ?_
      refine x_getR C fl_X12_7 cl_11 (1) nM0 kM0 fM0_1 dX12_rule_71 ?_
      refine x_sipush C dX12_rule_74 (v := (248 : Int32)) (by decide) ?_
      refine x_iloadn C dX12_rule_77 (x := x2) rfl ?_
      refine x_iadd C dX12_rule_78 ?_
      refine x_aloadn C dX12_rule_79 rfl ?_
      refine x_getR C fl_X12_19 cl_11 (4) nM0 kM0 fM0_5 dX12_rule_80 ?_
      refine x_iloadn C dX12_rule_83 (x := x2) rfl ?_
      refine x_iald C nM4 kM4 dX12_rule_84 ?_
      refine x_iast C nM1 kM1 dX12_rule_85 ?_
      refine x_ltM (fun M8 => ?_)
      refine x_iinc C dX12_rule_86 (v := (x2 + (1 : Int32))) rfl rfl (L' := [some (.ref ((wM b).2.2.2 + 0)), some (.int y1), some (.int (x2 + (1 : Int32)))]) rfl ?_
      refine x_goto C dX12_rule_89 (tgt := 62) (by decide) ?_
      exact x_wk (L' := [some (.ref ((wM b).2.2.2 + 0)), some (.int y1), some (.int (x2 + (1 : Int32)))]) (And.intro rfl (And.intro rfl (And.intro rfl trivial))) (ih ((x2 + (1 : Int32))) (M8))
set_option maxHeartbeats 4000000 in
set_option maxRecDepth 20000 in
theorem w_md_rule_J29 {z : ZT} {l : Launch} {g : GG} {b : Nat} (C : Cx z l g (wM b) (rmd 132) cX12_rule 3 RX12 (some .int))   (x1 : Int32) (s0 : Int32) (M : Mem) : XG z g (wM b) 3 (ZQ z g (wM b) finM) 0 0 29 [some (.ref ((wM b).2.2.2 + 0)), some (.int x1), none] [.int s0, .ref ((wM b).2.2.2 + 0)] M (md_rule_J29 x1 s0 M) := by
  rw [md_rule_J29]
  refine x_putI C fl_X12_59 cl_11 fint_11_0 nM0 kM0 fM0_0 dX12_rule_29 ?_
  refine x_ltM (fun M5 => ?_)
  refine x_aloadn C dX12_rule_32 rfl ?_
  refine x_getI C fl_X12_59 cl_11 nM0 kM0 fM0_0 dX12_rule_33 ?_
  refine x_ifle C dX12_rule_36 (tgt := 41) (by decide) (fun _h => ?_) (fun _h => ?_)
  · refine x_aloadn C dX12_rule_41 rfl ?_
    refine x_getR C fl_X12_7 cl_11 (1) nM0 kM0 fM0_1 dX12_rule_42 ?_
    refine x_bipush C dX12_rule_45 (v := (8 : Int32)) (by decide) ?_
    refine x_iloadn C dX12_rule_47 (x := x1) rfl ?_
    refine x_iastj C nM1 kM1 (j := 8) (by decide) (by decide) dX12_rule_48 ?_
    refine x_ltM (fun M6 => ?_)
    refine x_aloadn C dX12_rule_49 rfl ?_
    refine x_getR C fl_X12_7 cl_11 (1) nM0 kM0 fM0_1 dX12_rule_50 ?_
    refine x_bipush C dX12_rule_53 (v := (9 : Int32)) (by decide) ?_
    refine x_aloadn C dX12_rule_55 rfl ?_
    refine x_getI C fl_X12_91 cl_11 nM0 kM0 fM0_8 dX12_rule_56 ?_
    refine x_iastj C nM1 kM1 (j := 9) (by decide) (by decide) dX12_rule_59 ?_
    refine x_ltM (fun M7 => ?_)
    refine x_iconst C dX12_rule_60 (v := (0 : Int32)) (by decide) ?_
    refine x_istoren C dX12_rule_61 (L' := [some (.ref ((wM b).2.2.2 + 0)), some (.int x1), some (.int (0 : Int32))]) (ltb rfl) rfl ?_
    refine x_wk (L' := [some (.ref ((wM b).2.2.2 + 0)), some (.int x1), some (.int (0 : Int32))]) (And.intro rfl (And.intro rfl (And.intro rfl trivial))) (w_md_rule_L62 C  (x1)  (fun M10 => ?_) FU ((0 : Int32)) M7)
    refine x_iloadn C dX12_rule_92 (x := x1) rfl ?_
    exact x_iret C dX12_rule_93 rfl
  · refine x_iconst C dX12_rule_39 (v := (0 : Int32)) (by decide) ?_
    exact x_iret C dX12_rule_40 rfl
set_option maxHeartbeats 4000000 in
set_option maxRecDepth 20000 in
theorem c_md_rule {l : Launch} {g : GG} {b : Nat} (M : Mem) : CT l g (wM b) (rmd 132) yX12_rule cX12_rule 3 (some .int) [.ref ((wM b).2.2.2 + 0)] M finM (md_rule  M) := by
  refine CT.of rfl (Nat.le_of_ble_eq_true rfl) (catc rfl cat0) (fun z C => ?_)
  have C : Cx z l g (wM b) (rmd 132) cX12_rule 3 RX12 (some .int) := C
  refine x_wk (L' := [some (.ref ((wM b).2.2.2 + 0)), none, none]) (And.intro rfl trivial) ?_
  rw [md_rule]
  refine x_aloadn C dX12_rule_0 rfl ?_
  refine x_Vv (st := []) C (c_md_begins   M) lk_X12_163 nM0 kM0 ⟨_, _, rfl⟩ rfl rfl (Nat.le_of_ble_eq_true rfl) (rmok_d (by decide) (by decide)) ⟨Nat.zero_le _, Nat.zero_le _⟩ dX12_rule_1 (fun M1 => ?_)
  refine x_aloadn C dX12_rule_4 rfl ?_
  refine x_iconst C dX12_rule_5 (v := (-1 : Int32)) (by decide) ?_
  refine x_putI C fl_X12_205 cl_11 fint_11_13 nM0 kM0 fM0_13 dX12_rule_6 ?_
  refine x_ltM (fun M2 => ?_)
  refine x_aloadn C dX12_rule_9 rfl ?_
  refine x_iconst C dX12_rule_10 (v := (1 : Int32)) (by decide) ?_
  refine x_Vm (st := []) C (c_md_read  ((1 : Int32)) M2) lk_X12_166 nM0 kM0 ⟨_, _, rfl⟩ rfl rfl (Nat.le_of_ble_eq_true rfl) (rmok_d (by decide) (by decide)) ⟨Nat.zero_le _, Nat.zero_le _⟩ dX12_rule_11 (fun v4 M3 => ?_)
  refine x_istoren C dX12_rule_14 (L' := [some (.ref ((wM b).2.2.2 + 0)), some (.int v4), none]) (ltb rfl) rfl ?_
  refine x_aloadn C dX12_rule_15 rfl ?_
  refine x_aloadn C dX12_rule_16 rfl ?_
  refine x_getI C fl_X12_22 cl_11 nM0 kM0 fM0_10 dX12_rule_17 ?_
  refine x_iconst C dX12_rule_20 (v := (-1 : Int32)) (by decide) ?_
  refine x_icmpeq C dX12_rule_21 (tgt := 28) (by decide) (fun _h => ?_) (fun _h => ?_)
  · refine x_iconst C dX12_rule_28 (v := (0 : Int32)) (by decide) ?_
    exact x_wk (L' := [some (.ref ((wM b).2.2.2 + 0)), some (.int v4), none]) (And.intro rfl (And.intro rfl trivial)) (w_md_rule_J29 C   (v4) ((0 : Int32)) M3)
  · refine x_iconst C dX12_rule_24 (v := (1 : Int32)) (by decide) ?_
    refine x_goto C dX12_rule_25 (tgt := 29) (by decide) ?_
    exact x_wk (L' := [some (.ref ((wM b).2.2.2 + 0)), some (.int v4), none]) (And.intro rfl (And.intro rfl trivial)) (w_md_rule_J29 C   (v4) ((1 : Int32)) M3)
