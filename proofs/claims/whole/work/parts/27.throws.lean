def rf_river (M : Mem) : Option XR := (rv_copyFrom 14 6 M).bind fun M1 => (tp_split M1).bind fun M2 => bnd2 (rr_readText M2) fun v4 M3 => (rf_endReading (v4) M3).bind fun M5 => (if v4 = 0 then some (1, 0, M5) else (if (M5 6 0) < (10 : Int32) then (rv_copyFrom 6 14 M5).bind fun M6 => lt1 (wr M6 6 0 ((M6 6 0) + (1 : Int32))) fun M7 => some (0, (M7 6 0), M7) else some (2, 0, M5)))
set_option maxHeartbeats 4000000 in
set_option maxRecDepth 20000 in
theorem c_rf_river {l : Launch} {g : GG} {b : Nat} (hl : l.stackTraces = false) (M : Mem) : CX l g (wC b) (rmx 10) yX11_river cX11_river 2 (some .int) [.ref ((wC b).2.2.2 + 0)] M (rf_river  M) := by
  refine CX.of rfl (Nat.le_of_ble_eq_true rfl) (catc rfl cat0) (fun z CX => ?_)
  have CX : CxX z l g (wC b) (rmx 10) cX11_river 2 RX11 (some .int) := CX
  have C := CX.1
  refine x_wk (L' := [some (.ref ((wC b).2.2.2 + 0)), none]) (And.intro rfl trivial) ?_
  rw [rf_river]
  refine x_aloadn C dX11_river_0 rfl ?_
  refine x_getR C fl_X11_23 cl_10 (14) nC0 kC0 fC0_2 dX11_river_1 ?_
  refine x_aloadn C dX11_river_4 rfl ?_
  refine x_getR C fl_X11_19 cl_10 (6) nC0 kC0 fC0_1 dX11_river_5 ?_
  refine x_Vv (st := []) C (c_rv_copyFrom (Or.inr (Or.inl rfl)) (Or.inl rfl)  M) lk_X11_119 nC14 kC14 ⟨_, _, rfl⟩ rfl rfl (Nat.le_of_ble_eq_true rfl) (rmok_x (by decide) (by decide)) ⟨Nat.zero_le _, Nat.zero_le _⟩ dX11_river_8 (fun M1 => ?_)
  refine x_aloadn C dX11_river_11 rfl ?_
  refine x_getR C fl_X11_12 cl_10 (1) nC0 kC0 fC0_0 dX11_river_12 ?_
  refine x_Vv (st := []) C (c_tp_split   M1) lk_X11_123 nC1 kC1 ⟨_, _, rfl⟩ rfl rfl (Nat.le_of_ble_eq_true rfl) (rmok_x (by decide) (by decide)) ⟨Nat.zero_le _, Nat.zero_le _⟩ dX11_river_15 (fun M2 => ?_)
  refine x_aloadn C dX11_river_18 rfl ?_
  refine x_getR C fl_X11_57 cl_10 (73) nC0 kC0 fC0_9 dX11_river_19 ?_
  refine x_Vm (st := []) C (c_rr_readText   M2) lk_X11_126 nC73 kC73 ⟨_, _, rfl⟩ rfl rfl (Nat.le_of_ble_eq_true rfl) (rmok_x (by decide) (by decide)) ⟨Nat.zero_le _, Nat.zero_le _⟩ dX11_river_22 (fun v4 M3 => ?_)
  refine x_istoren C dX11_river_25 (L' := [some (.ref ((wC b).2.2.2 + 0)), some (.int v4)]) (ltb rfl) rfl ?_
  refine x_aloadn C dX11_river_26 rfl ?_
  refine x_iloadn C dX11_river_27 (x := v4) rfl ?_
  refine x_Vv (st := []) C (c_rf_endReading  (v4) M3) lk_X11_130 nC0 kC0 ⟨_, _, rfl⟩ rfl rfl (Nat.le_of_ble_eq_true rfl) (rmok_x (by decide) (by decide)) ⟨Nat.zero_le _, Nat.zero_le _⟩ dX11_river_28 (fun M5 => ?_)
  refine x_iloadn C dX11_river_31 (x := v4) rfl ?_
  refine x_ifne C dX11_river_32 (tgt := 45) (by decide) (fun _h => ?_) (fun _h => ?_)
  · refine x_aloadn C dX11_river_45 rfl ?_
    refine x_getR C fl_X11_19 cl_10 (6) nC0 kC0 fC0_1 dX11_river_46 ?_
    refine x_getI C fl_X11_141 cl_5 nC6 kC6 fC6_0 dX11_river_49 ?_
    refine x_bipush C dX11_river_52 (v := (10 : Int32)) (by decide) ?_
    refine x_icmplt C dX11_river_54 (tgt := 67) (by decide) (fun _h => ?_) (fun _h => ?_)
    · refine x_aloadn C dX11_river_67 rfl ?_
      refine x_getR C fl_X11_19 cl_10 (6) nC0 kC0 fC0_1 dX11_river_68 ?_
      refine x_aloadn C dX11_river_71 rfl ?_
      refine x_getR C fl_X11_23 cl_10 (14) nC0 kC0 fC0_2 dX11_river_72 ?_
      refine x_Vv (st := []) C (c_rv_copyFrom (Or.inl rfl) (Or.inr (Or.inl rfl))  M5) lk_X11_119 nC6 kC6 ⟨_, _, rfl⟩ rfl rfl (Nat.le_of_ble_eq_true rfl) (rmok_x (by decide) (by decide)) ⟨Nat.zero_le _, Nat.zero_le _⟩ dX11_river_75 (fun M6 => ?_)
      refine x_aloadn C dX11_river_78 rfl ?_
      refine x_getR C fl_X11_19 cl_10 (6) nC0 kC0 fC0_1 dX11_river_79 ?_
      refine x_dup C dX11_river_82 rfl ?_
      refine x_getI C fl_X11_141 cl_5 nC6 kC6 fC6_0 dX11_river_83 ?_
      refine x_iconst C dX11_river_86 (v := (1 : Int32)) (by decide) ?_
      refine x_iadd C dX11_river_87 ?_
      refine x_putI C fl_X11_141 cl_5 fint_5_0 nC6 kC6 fC6_0 dX11_river_88 ?_
      refine x_ltM (fun M7 => ?_)
      refine x_aloadn C dX11_river_91 rfl ?_
      refine x_getR C fl_X11_19 cl_10 (6) nC0 kC0 fC0_1 dX11_river_92 ?_
      refine x_getI C fl_X11_141 cl_5 nC6 kC6 fC6_0 dX11_river_95 ?_
      exact x_xret C dX11_river_98
    · exact x_throw CX hl ⟨by decide, rfl⟩ lx_148 (si := 1) rfl ⟨by decide, by decide, by decide, by decide⟩ dX11_river_57 dX11_river_60 dX11_river_61 dX11_river_63 dX11_river_66
  · exact x_throw CX hl ⟨by decide, rfl⟩ lx_138 (si := 0) rfl ⟨by decide, by decide, by decide, by decide⟩ dX11_river_35 dX11_river_38 dX11_river_39 dX11_river_41 dX11_river_44
def rf_rule (M : Mem) : Option XR := (tp_split M).bind fun M1 => bnd2 (rd_readText M1) fun v3 M2 => (rf_endReading (v3) M2).bind fun M4 => (if v3 = 0 then some (1, 0, M4) else (ru_copyFrom 58 63 M4).bind fun M5 => some (0, (M5 58 0), M5))
set_option maxHeartbeats 4000000 in
set_option maxRecDepth 20000 in
theorem c_rf_rule {l : Launch} {g : GG} {b : Nat} (hl : l.stackTraces = false) (M : Mem) : CX l g (wC b) (rmx 55) yX11_rule cX11_rule 2 (some .int) [.ref ((wC b).2.2.2 + 0)] M (rf_rule  M) := by
  refine CX.of rfl (Nat.le_of_ble_eq_true rfl) (catc rfl cat0) (fun z CX => ?_)
  have CX : CxX z l g (wC b) (rmx 55) cX11_rule 2 RX11 (some .int) := CX
  have C := CX.1
  refine x_wk (L' := [some (.ref ((wC b).2.2.2 + 0)), none]) (And.intro rfl trivial) ?_
  rw [rf_rule]
  refine x_aloadn C dX11_rule_0 rfl ?_
  refine x_getR C fl_X11_12 cl_10 (1) nC0 kC0 fC0_0 dX11_rule_1 ?_
  refine x_Vv (st := []) C (c_tp_split   M) lk_X11_123 nC1 kC1 ⟨_, _, rfl⟩ rfl rfl (Nat.le_of_ble_eq_true rfl) (rmok_x (by decide) (by decide)) ⟨Nat.zero_le _, Nat.zero_le _⟩ dX11_rule_4 (fun M1 => ?_)
  refine x_aloadn C dX11_rule_7 rfl ?_
  refine x_getR C fl_X11_66 cl_10 (74) nC0 kC0 fC0_10 dX11_rule_8 ?_
  refine x_Vm (st := []) C (c_rd_readText   M1) lk_X11_149 nC74 kC74 ⟨_, _, rfl⟩ rfl rfl (Nat.le_of_ble_eq_true rfl) (rmok_x (by decide) (by decide)) ⟨Nat.zero_le _, Nat.zero_le _⟩ dX11_rule_11 (fun v3 M2 => ?_)
  refine x_istoren C dX11_rule_14 (L' := [some (.ref ((wC b).2.2.2 + 0)), some (.int v3)]) (ltb rfl) rfl ?_
  refine x_aloadn C dX11_rule_15 rfl ?_
  refine x_iloadn C dX11_rule_16 (x := v3) rfl ?_
  refine x_Vv (st := []) C (c_rf_endReading  (v3) M2) lk_X11_130 nC0 kC0 ⟨_, _, rfl⟩ rfl rfl (Nat.le_of_ble_eq_true rfl) (rmok_x (by decide) (by decide)) ⟨Nat.zero_le _, Nat.zero_le _⟩ dX11_rule_17 (fun M4 => ?_)
  refine x_iloadn C dX11_rule_20 (x := v3) rfl ?_
  refine x_ifne C dX11_rule_21 (tgt := 34) (by decide) (fun _h => ?_) (fun _h => ?_)
  · refine x_aloadn C dX11_rule_34 rfl ?_
    refine x_getR C fl_X11_42 cl_10 (58) nC0 kC0 fC0_6 dX11_rule_35 ?_
    refine x_aloadn C dX11_rule_38 rfl ?_
    refine x_getR C fl_X11_46 cl_10 (63) nC0 kC0 fC0_7 dX11_rule_39 ?_
    refine x_Vv (st := []) C (c_ru_copyFrom (Or.inl rfl) (Or.inr (Or.inl rfl))  M4) lk_X11_152 nC58 kC58 ⟨_, _, rfl⟩ rfl rfl (Nat.le_of_ble_eq_true rfl) (rmok_x (by decide) (by decide)) ⟨Nat.zero_le _, Nat.zero_le _⟩ dX11_rule_42 (fun M5 => ?_)
    refine x_aloadn C dX11_rule_45 rfl ?_
    refine x_getR C fl_X11_42 cl_10 (58) nC0 kC0 fC0_6 dX11_rule_46 ?_
    refine x_getI C fl_X11_155 cl_7 nC58 kC58 fC58_0 dX11_rule_49 ?_
    exact x_xret C dX11_rule_52
  · exact x_throw CX hl ⟨by decide, rfl⟩ lx_138 (si := 2) rfl ⟨by decide, by decide, by decide, by decide⟩ dX11_rule_24 dX11_rule_27 dX11_rule_28 dX11_rule_30 dX11_rule_33
def rf_look (p1 : Int32) (p2 : Int32) (M : Mem) : Option XR := (rv_hasBeing 6 (p1) M).bind fun v1 => (if v1 = 0 then some (3, 0, M) else (if p2 = (0 : Int32) then chk (inb p1 10) (some (0, (M 7 p1.toNatClampNeg), M)) else (if p2 = (1 : Int32) then chk (inb p1 10) (some (0, (M 8 p1.toNatClampNeg), M)) else (if p2 = (2 : Int32) then chk (inb p1 10) (some (0, (M 9 p1.toNatClampNeg), M)) else (if p2 = (3 : Int32) then some (0, (((M 6 5) >>> (p1 &&& 31)) &&& (1 : Int32)), M) else (if p2 = (4 : Int32) then chk (inb p1 10) (some (0, (M 31 p1.toNatClampNeg), M)) else (if p2 = (5 : Int32) then (bk_forceOf 30 (p1) 6 M).bind fun v3 => some (0, v3, M) else (if p2 = (6 : Int32) then some (0, (((M 30 0) >>> (p1 &&& 31)) &&& (1 : Int32)), M) else (if p2 = (7 : Int32) then (bk_balanceOf 30 (p1) M).bind fun v2 => some (0, v2, M) else some (4, 0, M))))))))))
set_option maxHeartbeats 4000000 in
set_option maxRecDepth 20000 in
theorem c_rf_look {l : Launch} {g : GG} {b : Nat} (hl : l.stackTraces = false) (p1 : Int32) (p2 : Int32) (M : Mem) : CX l g (wC b) (rmx 6) yX11_look cX11_look 3 (some .int) [.ref ((wC b).2.2.2 + 0), .int p1, .int p2] M (rf_look p1 p2 M) := by
  refine CX.of rfl (Nat.le_of_ble_eq_true rfl) (catc rfl (catc rfl (catc rfl cat0))) (fun z CX => ?_)
  have CX : CxX z l g (wC b) (rmx 6) cX11_look 3 RX11 (some .int) := CX
  have C := CX.1
  refine x_wk (L' := [some (.ref ((wC b).2.2.2 + 0)), some (.int p1), some (.int p2)]) (And.intro rfl (And.intro rfl (And.intro rfl trivial))) ?_
  rw [rf_look]
  refine x_aloadn C dX11_look_0 rfl ?_
  refine x_getR C fl_X11_19 cl_10 (6) nC0 kC0 fC0_1 dX11_look_1 ?_
  refine x_iloadn C dX11_look_4 (x := p1) rfl ?_
  refine x_Vi (st := []) C (c_rv_hasBeing (Or.inl rfl) (p1) M) lk_X11_158 nC6 kC6 ⟨_, _, rfl⟩ rfl rfl (Nat.le_of_ble_eq_true rfl) (rmok_x (by decide) (by decide)) ⟨Nat.zero_le _, Nat.zero_le _⟩ dX11_look_5 (fun v1 => ?_)
  refine x_ifne C dX11_look_8 (tgt := 21) (by decide) (fun _h => ?_) (fun _h => ?_)
  · refine x_iloadn C dX11_look_21 (x := p2) rfl ?_
    refine x_ite (fun h9 => ?_) (fun h_0 => ?_)
    · refine x_tsIn C dX11_look_22 h9 (by decide) (by decide) rfl (tgt := 68) (by decide) ?_
      refine x_aloadn C dX11_look_68 rfl ?_
      refine x_getR C fl_X11_19 cl_10 (6) nC0 kC0 fC0_1 dX11_look_69 ?_
      refine x_getR C fl_X11_167 cl_5 (7) nC6 kC6 fC6_2 dX11_look_72 ?_
      refine x_iloadn C dX11_look_75 (x := p1) rfl ?_
      refine x_iald C nC7 kC7 dX11_look_76 ?_
      exact x_xret C dX11_look_77
    · refine x_ite (fun h9 => ?_) (fun h_1 => ?_)
      · refine x_tsIn C dX11_look_22 h9 (by decide) (by decide) rfl (tgt := 78) (by decide) ?_
        refine x_aloadn C dX11_look_78 rfl ?_
        refine x_getR C fl_X11_19 cl_10 (6) nC0 kC0 fC0_1 dX11_look_79 ?_
        refine x_getR C fl_X11_171 cl_5 (8) nC6 kC6 fC6_3 dX11_look_82 ?_
        refine x_iloadn C dX11_look_85 (x := p1) rfl ?_
        refine x_iald C nC8 kC8 dX11_look_86 ?_
        exact x_xret C dX11_look_87
      · refine x_ite (fun h9 => ?_) (fun h_2 => ?_)
        · refine x_tsIn C dX11_look_22 h9 (by decide) (by decide) rfl (tgt := 88) (by decide) ?_
          refine x_aloadn C dX11_look_88 rfl ?_
          refine x_getR C fl_X11_19 cl_10 (6) nC0 kC0 fC0_1 dX11_look_89 ?_
          refine x_getR C fl_X11_174 cl_5 (9) nC6 kC6 fC6_4 dX11_look_92 ?_
          refine x_iloadn C dX11_look_95 (x := p1) rfl ?_
          refine x_iald C nC9 kC9 dX11_look_96 ?_
          exact x_xret C dX11_look_97
        · refine x_ite (fun h9 => ?_) (fun h_3 => ?_)
          · refine x_tsIn C dX11_look_22 h9 (by decide) (by decide) rfl (tgt := 98) (by decide) ?_
            refine x_aloadn C dX11_look_98 rfl ?_
            refine x_getR C fl_X11_19 cl_10 (6) nC0 kC0 fC0_1 dX11_look_99 ?_
            refine x_getI C fl_X11_177 cl_5 nC6 kC6 fC6_5 dX11_look_102 ?_
            refine x_iloadn C dX11_look_105 (x := p1) rfl ?_
            refine x_ishr C dX11_look_106 ?_
            refine x_iconst C dX11_look_107 (v := (1 : Int32)) (by decide) ?_
            refine x_iand C dX11_look_108 ?_
            exact x_xret C dX11_look_109
          · refine x_ite (fun h9 => ?_) (fun h_4 => ?_)
            · refine x_tsIn C dX11_look_22 h9 (by decide) (by decide) rfl (tgt := 110) (by decide) ?_
              refine x_aloadn C dX11_look_110 rfl ?_
              refine x_getR C fl_X11_32 cl_10 (30) nC0 kC0 fC0_4 dX11_look_111 ?_
              refine x_getR C fl_X11_180 cl_0 (31) nC30 kC30 fC30_5 dX11_look_114 ?_
              refine x_iloadn C dX11_look_117 (x := p1) rfl ?_
              refine x_iald C nC31 kC31 dX11_look_118 ?_
              exact x_xret C dX11_look_119
            · refine x_ite (fun h9 => ?_) (fun h_5 => ?_)
              · refine x_tsIn C dX11_look_22 h9 (by decide) (by decide) rfl (tgt := 120) (by decide) ?_
                refine x_aloadn C dX11_look_120 rfl ?_
                refine x_getR C fl_X11_32 cl_10 (30) nC0 kC0 fC0_4 dX11_look_121 ?_
                refine x_iloadn C dX11_look_124 (x := p1) rfl ?_
                refine x_aloadn C dX11_look_125 rfl ?_
                refine x_getR C fl_X11_19 cl_10 (6) nC0 kC0 fC0_1 dX11_look_126 ?_
                refine x_Vi (st := []) C (c_bk_forceOf (Or.inl rfl) (Or.inl rfl) (p1) M) lk_X11_183 nC30 kC30 ⟨_, _, rfl⟩ rfl rfl (Nat.le_of_ble_eq_true rfl) (rmok_x (by decide) (by decide)) ⟨Nat.zero_le _, Nat.zero_le _⟩ dX11_look_129 (fun v3 => ?_)
                exact x_xret C dX11_look_132
              · refine x_ite (fun h9 => ?_) (fun h_6 => ?_)
                · refine x_tsIn C dX11_look_22 h9 (by decide) (by decide) rfl (tgt := 133) (by decide) ?_
                  refine x_aloadn C dX11_look_133 rfl ?_
                  refine x_getR C fl_X11_32 cl_10 (30) nC0 kC0 fC0_4 dX11_look_134 ?_
                  refine x_getI C fl_X11_187 cl_0 nC30 kC30 fC30_0 dX11_look_137 ?_
                  refine x_iloadn C dX11_look_140 (x := p1) rfl ?_
                  refine x_ishr C dX11_look_141 ?_
                  refine x_iconst C dX11_look_142 (v := (1 : Int32)) (by decide) ?_
                  refine x_iand C dX11_look_143 ?_
                  exact x_xret C dX11_look_144
                · refine x_ite (fun h9 => ?_) (fun h_7 => ?_)
                  · refine x_tsIn C dX11_look_22 h9 (by decide) (by decide) rfl (tgt := 145) (by decide) ?_
                    refine x_aloadn C dX11_look_145 rfl ?_
                    refine x_getR C fl_X11_32 cl_10 (30) nC0 kC0 fC0_4 dX11_look_146 ?_
                    refine x_iloadn C dX11_look_149 (x := p1) rfl ?_
                    refine x_Vi (st := []) C (c_bk_balanceOf (Or.inl rfl) (p1) M) lk_X11_190 nC30 kC30 ⟨_, _, rfl⟩ rfl rfl (Nat.le_of_ble_eq_true rfl) (rmok_x (by decide) (by decide)) ⟨Nat.zero_le _, Nat.zero_le _⟩ dX11_look_150 (fun v2 => ?_)
                    exact x_xret C dX11_look_153
                  · refine x_tsOut C dX11_look_22 (ts_out (fun j h1 h2 => ?_)) (tgt := 154) (by decide) ?_
                    · have hj : j = 0 ∨ j = 1 ∨ j = 2 ∨ j = 3 ∨ j = 4 ∨ j = 5 ∨ j = 6 ∨ j = 7 := by omega
                      rcases hj with rfl | rfl | rfl | rfl | rfl | rfl | rfl | rfl
                      · exact h_0
                      · exact h_1
                      · exact h_2
                      · exact h_3
                      · exact h_4
                      · exact h_5
                      · exact h_6
                      · exact h_7
                    · exact x_throwX CX hl nx0 nx1 nx2 nx5 ⟨by decide, rfl⟩ lxx_198 (si := 4) rfl ⟨by decide, by decide, by decide, by decide⟩ dX11_look_154 dX11_look_157 dX11_look_158 dX11_look_160 dX11_look_163
  · exact x_throw CX hl ⟨by decide, rfl⟩ lx_166 (si := 3) rfl ⟨by decide, by decide, by decide, by decide⟩ dX11_look_11 dX11_look_14 dX11_look_15 dX11_look_17 dX11_look_20
def rf_cross (p1 : Int32) (p2 : Int32) (M : Mem) : Option XR := (mv_prepare M).bind fun M1 => (bk_state 30 M1).bind fun v2 => (mv_crossing (v2) (p1) (p2) M1).bind fun v3 => (if v3 = (-1 : Int32) then some (5, 0, M1) else (rv_debtors 6 M1).bind fun v4 => (bk_noteCrossing 30 (p1) (p2) (v4) M1).bind fun M5 => (bk_passMinutes 30 (v3) M5).bind fun M6 => some (0, v3, M6))
set_option maxHeartbeats 4000000 in
set_option maxRecDepth 20000 in
theorem c_rf_cross {l : Launch} {g : GG} {b : Nat} (hl : l.stackTraces = false) (p1 : Int32) (p2 : Int32) (M : Mem) : CX l g (wC b) (rmx 6) yX11_cross cX11_cross 4 (some .int) [.ref ((wC b).2.2.2 + 0), .int p1, .int p2] M (rf_cross p1 p2 M) := by
  refine CX.of rfl (Nat.le_of_ble_eq_true rfl) (catc rfl (catc rfl (catc rfl cat0))) (fun z CX => ?_)
  have CX : CxX z l g (wC b) (rmx 6) cX11_cross 4 RX11 (some .int) := CX
  have C := CX.1
  refine x_wk (L' := [some (.ref ((wC b).2.2.2 + 0)), some (.int p1), some (.int p2), none]) (And.intro rfl (And.intro rfl (And.intro rfl trivial))) ?_
  rw [rf_cross]
  refine x_aloadn C dX11_cross_0 rfl ?_
  refine x_getR C fl_X11_75 cl_10 (75) nC0 kC0 fC0_11 dX11_cross_1 ?_
  refine x_Vv (st := []) C (c_mv_prepare   M) lk_X11_199 nC75 kC75 ⟨_, _, rfl⟩ rfl rfl (Nat.le_of_ble_eq_true rfl) (rmok_x (by decide) (by decide)) ⟨Nat.zero_le _, Nat.zero_le _⟩ dX11_cross_4 (fun M1 => ?_)
  refine x_aloadn C dX11_cross_7 rfl ?_
  refine x_getR C fl_X11_75 cl_10 (75) nC0 kC0 fC0_11 dX11_cross_8 ?_
  refine x_aloadn C dX11_cross_11 rfl ?_
  refine x_getR C fl_X11_32 cl_10 (30) nC0 kC0 fC0_4 dX11_cross_12 ?_
  refine x_Vi (st := [.ref ((wC b).2.2.2 + 75)]) C (c_bk_state (Or.inl rfl)  M1) lk_X11_211 nC30 kC30 ⟨_, _, rfl⟩ rfl rfl (Nat.le_of_ble_eq_true rfl) (rmok_x (by decide) (by decide)) ⟨Nat.zero_le _, Nat.zero_le _⟩ dX11_cross_15 (fun v2 => ?_)
  refine x_iloadn C dX11_cross_18 (x := p1) rfl ?_
  refine x_iloadn C dX11_cross_19 (x := p2) rfl ?_
  refine x_Vi (st := []) C (c_mv_crossing  (v2) (p1) (p2) M1) lk_X11_215 nC75 kC75 ⟨_, _, rfl⟩ rfl rfl (Nat.le_of_ble_eq_true rfl) (rmok_x (by decide) (by decide)) ⟨Nat.zero_le _, Nat.zero_le _⟩ dX11_cross_20 (fun v3 => ?_)
  refine x_istoren C dX11_cross_23 (L' := [some (.ref ((wC b).2.2.2 + 0)), some (.int p1), some (.int p2), some (.int v3)]) (ltb rfl) rfl ?_
  refine x_iloadn C dX11_cross_24 (x := v3) rfl ?_
  refine x_iconst C dX11_cross_25 (v := (-1 : Int32)) (by decide) ?_
  refine x_icmpne C dX11_cross_26 (tgt := 39) (by decide) (fun _h => ?_) (fun _h => ?_)
  · refine x_aloadn C dX11_cross_39 rfl ?_
    refine x_getR C fl_X11_32 cl_10 (30) nC0 kC0 fC0_4 dX11_cross_40 ?_
    refine x_iloadn C dX11_cross_43 (x := p1) rfl ?_
    refine x_iloadn C dX11_cross_44 (x := p2) rfl ?_
    refine x_aloadn C dX11_cross_45 rfl ?_
    refine x_getR C fl_X11_19 cl_10 (6) nC0 kC0 fC0_1 dX11_cross_46 ?_
    refine x_Vi (st := [.int p2, .int p1, .ref ((wC b).2.2.2 + 30)]) C (c_rv_debtors (Or.inl rfl)  M1) lk_X11_224 nC6 kC6 ⟨_, _, rfl⟩ rfl rfl (Nat.le_of_ble_eq_true rfl) (rmok_x (by decide) (by decide)) ⟨Nat.zero_le _, Nat.zero_le _⟩ dX11_cross_49 (fun v4 => ?_)
    refine x_Vv (st := []) C (c_bk_noteCrossing (Or.inl rfl) (p1) (p2) (v4) M1) lk_X11_227 nC30 kC30 ⟨_, _, rfl⟩ rfl rfl (Nat.le_of_ble_eq_true rfl) (rmok_x (by decide) (by decide)) ⟨Nat.zero_le _, Nat.zero_le _⟩ dX11_cross_52 (fun M5 => ?_)
    refine x_aloadn C dX11_cross_55 rfl ?_
    refine x_getR C fl_X11_32 cl_10 (30) nC0 kC0 fC0_4 dX11_cross_56 ?_
    refine x_iloadn C dX11_cross_59 (x := v3) rfl ?_
    refine x_Vv (st := []) C (c_bk_passMinutes (Or.inl rfl) (v3) M5) lk_X11_231 nC30 kC30 ⟨_, _, rfl⟩ rfl rfl (Nat.le_of_ble_eq_true rfl) (rmok_x (by decide) (by decide)) ⟨Nat.zero_le _, Nat.zero_le _⟩ dX11_cross_60 (fun M6 => ?_)
    refine x_iloadn C dX11_cross_63 (x := v3) rfl ?_
    exact x_xret C dX11_cross_64
  · exact x_throw CX hl ⟨by decide, rfl⟩ lx_223 (si := 5) rfl ⟨by decide, by decide, by decide, by decide⟩ dX11_cross_29 dX11_cross_32 dX11_cross_33 dX11_cross_35 dX11_cross_38
def rf_swim (p1 : Int32) (M : Mem) : Option XR := (rv_hasBeing 6 (p1) M).bind fun v1 => (if v1 = 0 then some (3, 0, M) else (mv_prepare M).bind fun M2 => (bk_state 30 M2).bind fun v3 => (mv_swimming (v3) (p1) M2).bind fun v4 => (if v4 = (-1 : Int32) then some (5, 0, M2) else (bk_noteSwim 30 (p1) M2).bind fun M5 => (bk_passMinutes 30 (v4) M5).bind fun M6 => some (0, v4, M6)))
set_option maxHeartbeats 4000000 in
set_option maxRecDepth 20000 in
theorem c_rf_swim {l : Launch} {g : GG} {b : Nat} (hl : l.stackTraces = false) (p1 : Int32) (M : Mem) : CX l g (wC b) (rmx 6) yX11_swim cX11_swim 3 (some .int) [.ref ((wC b).2.2.2 + 0), .int p1] M (rf_swim p1 M) := by
  refine CX.of rfl (Nat.le_of_ble_eq_true rfl) (catc rfl (catc rfl cat0)) (fun z CX => ?_)
  have CX : CxX z l g (wC b) (rmx 6) cX11_swim 3 RX11 (some .int) := CX
  have C := CX.1
  refine x_wk (L' := [some (.ref ((wC b).2.2.2 + 0)), some (.int p1), none]) (And.intro rfl (And.intro rfl trivial)) ?_
  rw [rf_swim]
  refine x_aloadn C dX11_swim_0 rfl ?_
  refine x_getR C fl_X11_19 cl_10 (6) nC0 kC0 fC0_1 dX11_swim_1 ?_
  refine x_iloadn C dX11_swim_4 (x := p1) rfl ?_
  refine x_Vi (st := []) C (c_rv_hasBeing (Or.inl rfl) (p1) M) lk_X11_158 nC6 kC6 ⟨_, _, rfl⟩ rfl rfl (Nat.le_of_ble_eq_true rfl) (rmok_x (by decide) (by decide)) ⟨Nat.zero_le _, Nat.zero_le _⟩ dX11_swim_5 (fun v1 => ?_)
  refine x_ifne C dX11_swim_8 (tgt := 21) (by decide) (fun _h => ?_) (fun _h => ?_)
  · refine x_aloadn C dX11_swim_21 rfl ?_
    refine x_getR C fl_X11_75 cl_10 (75) nC0 kC0 fC0_11 dX11_swim_22 ?_
    refine x_Vv (st := []) C (c_mv_prepare   M) lk_X11_199 nC75 kC75 ⟨_, _, rfl⟩ rfl rfl (Nat.le_of_ble_eq_true rfl) (rmok_x (by decide) (by decide)) ⟨Nat.zero_le _, Nat.zero_le _⟩ dX11_swim_25 (fun M2 => ?_)
    refine x_aloadn C dX11_swim_28 rfl ?_
    refine x_getR C fl_X11_75 cl_10 (75) nC0 kC0 fC0_11 dX11_swim_29 ?_
    refine x_aloadn C dX11_swim_32 rfl ?_
    refine x_getR C fl_X11_32 cl_10 (30) nC0 kC0 fC0_4 dX11_swim_33 ?_
    refine x_Vi (st := [.ref ((wC b).2.2.2 + 75)]) C (c_bk_state (Or.inl rfl)  M2) lk_X11_211 nC30 kC30 ⟨_, _, rfl⟩ rfl rfl (Nat.le_of_ble_eq_true rfl) (rmok_x (by decide) (by decide)) ⟨Nat.zero_le _, Nat.zero_le _⟩ dX11_swim_36 (fun v3 => ?_)
    refine x_iloadn C dX11_swim_39 (x := p1) rfl ?_
    refine x_Vi (st := []) C (c_mv_swimming  (v3) (p1) M2) lk_X11_234 nC75 kC75 ⟨_, _, rfl⟩ rfl rfl (Nat.le_of_ble_eq_true rfl) (rmok_x (by decide) (by decide)) ⟨Nat.zero_le _, Nat.zero_le _⟩ dX11_swim_40 (fun v4 => ?_)
    refine x_istoren C dX11_swim_43 (L' := [some (.ref ((wC b).2.2.2 + 0)), some (.int p1), some (.int v4)]) (ltb rfl) rfl ?_
    refine x_iloadn C dX11_swim_44 (x := v4) rfl ?_
    refine x_iconst C dX11_swim_45 (v := (-1 : Int32)) (by decide) ?_
    refine x_icmpne C dX11_swim_46 (tgt := 59) (by decide) (fun _h => ?_) (fun _h => ?_)
    · refine x_aloadn C dX11_swim_59 rfl ?_
      refine x_getR C fl_X11_32 cl_10 (30) nC0 kC0 fC0_4 dX11_swim_60 ?_
      refine x_iloadn C dX11_swim_63 (x := p1) rfl ?_
      refine x_Vv (st := []) C (c_bk_noteSwim (Or.inl rfl) (p1) M2) lk_X11_240 nC30 kC30 ⟨_, _, rfl⟩ rfl rfl (Nat.le_of_ble_eq_true rfl) (rmok_x (by decide) (by decide)) ⟨Nat.zero_le _, Nat.zero_le _⟩ dX11_swim_64 (fun M5 => ?_)
      refine x_aloadn C dX11_swim_67 rfl ?_
      refine x_getR C fl_X11_32 cl_10 (30) nC0 kC0 fC0_4 dX11_swim_68 ?_
      refine x_iloadn C dX11_swim_71 (x := v4) rfl ?_
      refine x_Vv (st := []) C (c_bk_passMinutes (Or.inl rfl) (v4) M5) lk_X11_231 nC30 kC30 ⟨_, _, rfl⟩ rfl rfl (Nat.le_of_ble_eq_true rfl) (rmok_x (by decide) (by decide)) ⟨Nat.zero_le _, Nat.zero_le _⟩ dX11_swim_72 (fun M6 => ?_)
      refine x_iloadn C dX11_swim_75 (x := v4) rfl ?_
      exact x_xret C dX11_swim_76
    · exact x_throw CX hl ⟨by decide, rfl⟩ lx_223 (si := 6) rfl ⟨by decide, by decide, by decide, by decide⟩ dX11_swim_49 dX11_swim_52 dX11_swim_53 dX11_swim_55 dX11_swim_58
  · exact x_throw CX hl ⟨by decide, rfl⟩ lx_166 (si := 3) rfl ⟨by decide, by decide, by decide, by decide⟩ dX11_swim_11 dX11_swim_14 dX11_swim_15 dX11_swim_17 dX11_swim_20
def rf_rest (p1 : Int32) (M : Mem) : Option XR := (if p1 < (1 : Int32) then some (1, 0, M) else (if (600 : Int32) < p1 then some (1, 0, M) else (bk_passMinutes 30 (p1) M).bind fun M1 => some (0, (M1 30 2), M1)))
set_option maxHeartbeats 4000000 in
set_option maxRecDepth 20000 in
theorem c_rf_rest {l : Launch} {g : GG} {b : Nat} (hl : l.stackTraces = false) (p1 : Int32) (M : Mem) : CX l g (wC b) (rmx 6) yX11_rest cX11_rest 2 (some .int) [.ref ((wC b).2.2.2 + 0), .int p1] M (rf_rest p1 M) := by
  refine CX.of rfl (Nat.le_of_ble_eq_true rfl) (catc rfl (catc rfl cat0)) (fun z CX => ?_)
  have CX : CxX z l g (wC b) (rmx 6) cX11_rest 2 RX11 (some .int) := CX
  have C := CX.1
  refine x_wk (L' := [some (.ref ((wC b).2.2.2 + 0)), some (.int p1)]) (And.intro rfl (And.intro rfl trivial)) ?_
  rw [rf_rest]
  refine x_iloadn C dX11_rest_0 (x := p1) rfl ?_
  refine x_iconst C dX11_rest_1 (v := (1 : Int32)) (by decide) ?_
  refine x_icmplt C dX11_rest_2 (tgt := 12) (by decide) (fun _h => ?_) (fun _h => ?_)
  · exact x_throw CX hl ⟨by decide, rfl⟩ lx_138 (si := 7) rfl ⟨by decide, by decide, by decide, by decide⟩ dX11_rest_12 dX11_rest_15 dX11_rest_16 dX11_rest_18 dX11_rest_21
  · refine x_iloadn C dX11_rest_5 (x := p1) rfl ?_
    refine x_sipush C dX11_rest_6 (v := (600 : Int32)) (by decide) ?_
    refine x_icmple C dX11_rest_9 (tgt := 22) (by decide) (fun _h => ?_) (fun _h => ?_)
    · refine x_aloadn C dX11_rest_22 rfl ?_
      refine x_getR C fl_X11_32 cl_10 (30) nC0 kC0 fC0_4 dX11_rest_23 ?_
      refine x_iloadn C dX11_rest_26 (x := p1) rfl ?_
      refine x_Vv (st := []) C (c_bk_passMinutes (Or.inl rfl) (p1) M) lk_X11_231 nC30 kC30 ⟨_, _, rfl⟩ rfl rfl (Nat.le_of_ble_eq_true rfl) (rmok_x (by decide) (by decide)) ⟨Nat.zero_le _, Nat.zero_le _⟩ dX11_rest_27 (fun M1 => ?_)
      refine x_aloadn C dX11_rest_30 rfl ?_
      refine x_getR C fl_X11_32 cl_10 (30) nC0 kC0 fC0_4 dX11_rest_31 ?_
      refine x_getI C fl_X11_245 cl_0 nC30 kC30 fC30_2 dX11_rest_34 ?_
      exact x_xret C dX11_rest_37
    · exact x_throw CX hl ⟨by decide, rfl⟩ lx_138 (si := 7) rfl ⟨by decide, by decide, by decide, by decide⟩ dX11_rest_12 dX11_rest_15 dX11_rest_16 dX11_rest_18 dX11_rest_21
def rf_owed (p1 : Int32) (p2 : Int32) (M : Mem) : Option XR := (rv_hasBeing 6 (p1) M).bind fun v1 => (if v1 = 0 then some (3, 0, M) else (rv_hasBeing 6 (p2) M).bind fun v2 => (if v2 = 0 then some (3, 0, M) else chk (inb p1 10) (chk (inb p2 10) (some (0, (M (32 + 1 + p1.toNatClampNeg) p2.toNatClampNeg), M)))))
set_option maxHeartbeats 4000000 in
set_option maxRecDepth 20000 in
theorem c_rf_owed {l : Launch} {g : GG} {b : Nat} (hl : l.stackTraces = false) (p1 : Int32) (p2 : Int32) (M : Mem) : CX l g (wC b) (rmx 6) yX11_owed cX11_owed 3 (some .int) [.ref ((wC b).2.2.2 + 0), .int p1, .int p2] M (rf_owed p1 p2 M) := by
  refine CX.of rfl (Nat.le_of_ble_eq_true rfl) (catc rfl (catc rfl (catc rfl cat0))) (fun z CX => ?_)
  have CX : CxX z l g (wC b) (rmx 6) cX11_owed 3 RX11 (some .int) := CX
  have C := CX.1
  refine x_wk (L' := [some (.ref ((wC b).2.2.2 + 0)), some (.int p1), some (.int p2)]) (And.intro rfl (And.intro rfl (And.intro rfl trivial))) ?_
  rw [rf_owed]
  refine x_aloadn C dX11_owed_0 rfl ?_
  refine x_getR C fl_X11_19 cl_10 (6) nC0 kC0 fC0_1 dX11_owed_1 ?_
  refine x_iloadn C dX11_owed_4 (x := p1) rfl ?_
  refine x_Vi (st := []) C (c_rv_hasBeing (Or.inl rfl) (p1) M) lk_X11_158 nC6 kC6 ⟨_, _, rfl⟩ rfl rfl (Nat.le_of_ble_eq_true rfl) (rmok_x (by decide) (by decide)) ⟨Nat.zero_le _, Nat.zero_le _⟩ dX11_owed_5 (fun v1 => ?_)
  refine x_ifeq C dX11_owed_8 (tgt := 22) (by decide) (fun _h => ?_) (fun _h => ?_)
  · exact x_throw CX hl ⟨by decide, rfl⟩ lx_166 (si := 3) rfl ⟨by decide, by decide, by decide, by decide⟩ dX11_owed_22 dX11_owed_25 dX11_owed_26 dX11_owed_28 dX11_owed_31
  · refine x_aloadn C dX11_owed_11 rfl ?_
    refine x_getR C fl_X11_19 cl_10 (6) nC0 kC0 fC0_1 dX11_owed_12 ?_
    refine x_iloadn C dX11_owed_15 (x := p2) rfl ?_
    refine x_Vi (st := []) C (c_rv_hasBeing (Or.inl rfl) (p2) M) lk_X11_158 nC6 kC6 ⟨_, _, rfl⟩ rfl rfl (Nat.le_of_ble_eq_true rfl) (rmok_x (by decide) (by decide)) ⟨Nat.zero_le _, Nat.zero_le _⟩ dX11_owed_16 (fun v2 => ?_)
    refine x_ifne C dX11_owed_19 (tgt := 32) (by decide) (fun _h => ?_) (fun _h => ?_)
    · refine x_aloadn C dX11_owed_32 rfl ?_
      refine x_getR C fl_X11_32 cl_10 (30) nC0 kC0 fC0_4 dX11_owed_33 ?_
      refine x_getR C fl_X11_253 cl_0 (32) nC30 kC30 fC30_6 dX11_owed_36 ?_
      refine x_iloadn C dX11_owed_39 (x := p1) rfl ?_
      refine x_rald C nC32 kC32 dX11_owed_40 (fun hi3 => ?_)
      refine x_iloadn C dX11_owed_41 (x := p2) rfl ?_
      refine x_iald C (nRow (R := 30) (Or.inl rfl) hi3) (kRow (R := 30) (Or.inl rfl) hi3) dX11_owed_42 ?_
      exact x_xret C dX11_owed_43
    · exact x_throw CX hl ⟨by decide, rfl⟩ lx_166 (si := 3) rfl ⟨by decide, by decide, by decide, by decide⟩ dX11_owed_22 dX11_owed_25 dX11_owed_26 dX11_owed_28 dX11_owed_31
def rf_clear (p1 : Int32) (M : Mem) : Option XR := (if p1 < (-1 : Int32) then some (1, 0, M) else bnd2 (bk_payment 30 (p1) M) fun v2 M1 => some (0, v2, M1))
set_option maxHeartbeats 4000000 in
set_option maxRecDepth 20000 in
theorem c_rf_clear {l : Launch} {g : GG} {b : Nat} (hl : l.stackTraces = false) (p1 : Int32) (M : Mem) : CX l g (wC b) (rmx 6) yX11_clear cX11_clear 2 (some .int) [.ref ((wC b).2.2.2 + 0), .int p1] M (rf_clear p1 M) := by
  refine CX.of rfl (Nat.le_of_ble_eq_true rfl) (catc rfl (catc rfl cat0)) (fun z CX => ?_)
  have CX : CxX z l g (wC b) (rmx 6) cX11_clear 2 RX11 (some .int) := CX
  have C := CX.1
  refine x_wk (L' := [some (.ref ((wC b).2.2.2 + 0)), some (.int p1)]) (And.intro rfl (And.intro rfl trivial)) ?_
  rw [rf_clear]
  refine x_iloadn C dX11_clear_0 (x := p1) rfl ?_
  refine x_iconst C dX11_clear_1 (v := (-1 : Int32)) (by decide) ?_
  refine x_icmpge C dX11_clear_2 (tgt := 16) (by decide) (fun _h => ?_) (fun _h => ?_)
  · refine x_aloadn C dX11_clear_16 rfl ?_
    refine x_getR C fl_X11_32 cl_10 (30) nC0 kC0 fC0_4 dX11_clear_17 ?_
    refine x_iloadn C dX11_clear_20 (x := p1) rfl ?_
    refine x_Vm (st := []) C (c_bk_payment (Or.inl rfl) (p1) M) lk_X11_259 nC30 kC30 ⟨_, _, rfl⟩ rfl rfl (Nat.le_of_ble_eq_true rfl) (rmok_x (by decide) (by decide)) ⟨Nat.zero_le _, Nat.zero_le _⟩ dX11_clear_21 (fun v2 M1 => ?_)
    exact x_xret C dX11_clear_24
  · exact x_throwW CX hl ⟨by decide, rfl⟩ lx_138 (si := 8) rfl ⟨by decide, by decide, by decide, by decide⟩ dX11_clear_5 dX11_clear_8 dX11_clear_9 dX11_clear_12 dX11_clear_15
def rf_plan_J19 (p1 : Int32) (p2 : Int32) (p3 : Int32) (M : Mem) : Option XR := bnd2 (rf_findPlan (p1) (p2) M) fun v2 M1 => (if v2 = 0 then some (0, (-1 : Int32), M1) else (if p3 = 0 then (pl_minutes M1).bind fun v4 => some (0, v4, M1) else (pl_length M1).bind fun v3 => some (0, v3, M1)))
def rf_plan (p1 : Int32) (p2 : Int32) (p3 : Int32) (M : Mem) : Option XR := (if p3 = 0 then rf_plan_J19 p1 p2 p3 M else (if p3 = (1 : Int32) then rf_plan_J19 p1 p2 p3 M else some (4, 0, M)))
set_option maxHeartbeats 4000000 in
set_option maxRecDepth 20000 in
theorem w_rf_plan_J19 {z : ZT} {l : Launch} {g : GG} {b : Nat} (hl : l.stackTraces = false) (CX : CxX z l g (wC b) (rmx 8) cX11_plan 4 RX11 (some .int)) (p1 : Int32) (p2 : Int32) (p3 : Int32)  (M : Mem) : XG z g (wC b) 4 (ZX z g (wC b)) 0 0 19 [some (.ref ((wC b).2.2.2 + 0)), some (.int p1), some (.int p2), some (.int p3)] [] M (rf_plan_J19 p1 p2 p3 M) := by
  have C := CX.1
  rw [rf_plan_J19]
  refine x_aloadn C dX11_plan_19 rfl ?_
  refine x_iloadn C dX11_plan_20 (x := p1) rfl ?_
  refine x_iloadn C dX11_plan_21 (x := p2) rfl ?_
  refine x_Vm (st := []) C (c_rf_findPlan  (p1) (p2) M) lk_X11_262 nC0 kC0 ⟨_, _, rfl⟩ rfl rfl (Nat.le_of_ble_eq_true rfl) (rmok_x (by decide) (by decide)) ⟨Nat.zero_le _, Nat.zero_le _⟩ dX11_plan_22 (fun v2 M1 => ?_)
  refine x_ifne C dX11_plan_25 (tgt := 30) (by decide) (fun _h => ?_) (fun _h => ?_)
  · refine x_iloadn C dX11_plan_30 (x := p3) rfl ?_
    refine x_ifne C dX11_plan_31 (tgt := 44) (by decide) (fun _h => ?_) (fun _h => ?_)
    · refine x_aloadn C dX11_plan_44 rfl ?_
      refine x_getR C fl_X11_84 cl_10 (82) nC0 kC0 fC0_12 dX11_plan_45 ?_
      refine x_Vi (st := []) C (c_pl_length   M1) lk_X11_269 nC82 kC82 ⟨_, _, rfl⟩ rfl rfl (Nat.le_of_ble_eq_true rfl) (rmok_x (by decide) (by decide)) ⟨Nat.zero_le _, Nat.zero_le _⟩ dX11_plan_48 (fun v3 => ?_)
      exact x_xret C dX11_plan_51
    · refine x_aloadn C dX11_plan_34 rfl ?_
      refine x_getR C fl_X11_84 cl_10 (82) nC0 kC0 fC0_12 dX11_plan_35 ?_
      refine x_Vi (st := []) C (c_pl_minutes   M1) lk_X11_266 nC82 kC82 ⟨_, _, rfl⟩ rfl rfl (Nat.le_of_ble_eq_true rfl) (rmok_x (by decide) (by decide)) ⟨Nat.zero_le _, Nat.zero_le _⟩ dX11_plan_38 (fun v4 => ?_)
      refine x_goto C dX11_plan_41 (tgt := 51) (by decide) ?_
      exact x_xret C dX11_plan_51
  · refine x_iconst C dX11_plan_28 (v := (-1 : Int32)) (by decide) ?_
    exact x_xret C dX11_plan_29
set_option maxHeartbeats 4000000 in
set_option maxRecDepth 20000 in
theorem c_rf_plan {l : Launch} {g : GG} {b : Nat} (hl : l.stackTraces = false) (p1 : Int32) (p2 : Int32) (p3 : Int32) (M : Mem) : CX l g (wC b) (rmx 8) yX11_plan cX11_plan 4 (some .int) [.ref ((wC b).2.2.2 + 0), .int p1, .int p2, .int p3] M (rf_plan p1 p2 p3 M) := by
  refine CX.of rfl (Nat.le_of_ble_eq_true rfl) (catc rfl (catc rfl (catc rfl (catc rfl cat0)))) (fun z CX => ?_)
  have CX : CxX z l g (wC b) (rmx 8) cX11_plan 4 RX11 (some .int) := CX
  have C := CX.1
  refine x_wk (L' := [some (.ref ((wC b).2.2.2 + 0)), some (.int p1), some (.int p2), some (.int p3)]) (And.intro rfl (And.intro rfl (And.intro rfl (And.intro rfl trivial)))) ?_
  rw [rf_plan]
  refine x_iloadn C dX11_plan_0 (x := p3) rfl ?_
  refine x_ifeq C dX11_plan_1 (tgt := 19) (by decide) (fun _h => ?_) (fun _h => ?_)
  · exact x_wk (L' := [some (.ref ((wC b).2.2.2 + 0)), some (.int p1), some (.int p2), some (.int p3)]) (And.intro rfl (And.intro rfl (And.intro rfl (And.intro rfl trivial)))) (w_rf_plan_J19 hl CX p1 p2 p3    M)
  · refine x_iloadn C dX11_plan_4 (x := p3) rfl ?_
    refine x_iconst C dX11_plan_5 (v := (1 : Int32)) (by decide) ?_
    refine x_icmpeq C dX11_plan_6 (tgt := 19) (by decide) (fun _h => ?_) (fun _h => ?_)
    · exact x_wk (L' := [some (.ref ((wC b).2.2.2 + 0)), some (.int p1), some (.int p2), some (.int p3)]) (And.intro rfl (And.intro rfl (And.intro rfl (And.intro rfl trivial)))) (w_rf_plan_J19 hl CX p1 p2 p3    M)
    · exact x_throwX CX hl nx0 nx1 nx2 nx5 ⟨by decide, rfl⟩ lxx_198 (si := 4) rfl ⟨by decide, by decide, by decide, by decide⟩ dX11_plan_9 dX11_plan_12 dX11_plan_13 dX11_plan_15 dX11_plan_18
def rf_lost (p1 : Int32) (M : Mem) : Option XR := bnd2 (od_take M) fun v2 M1 => lt1 (wr M1 1 1 (0 : Int32)) fun M3 => (if v2 = 0 then some (1, 0, M3) else (if p1 < (-1 : Int32) then some (1, 0, M3) else (mv_prepare M3).bind fun M4 => (if p1 = (-1 : Int32) then (bk_state 30 M4).bind fun v7 => (od_howMany (v7) M4).bind fun v8 => some (0, v8, M4) else (bk_state 30 M4).bind fun v5 => (od_first (v5) (p1) M4).bind fun v6 => some (0, v6, M4))))
set_option maxHeartbeats 4000000 in
set_option maxRecDepth 20000 in
theorem c_rf_lost {l : Launch} {g : GG} {b : Nat} (hl : l.stackTraces = false) (p1 : Int32) (M : Mem) : CX l g (wC b) (rmx 68) yX11_lost cX11_lost 3 (some .int) [.ref ((wC b).2.2.2 + 0), .int p1] M (rf_lost p1 M) := by
  refine CX.of rfl (Nat.le_of_ble_eq_true rfl) (catc rfl (catc rfl cat0)) (fun z CX => ?_)
  have CX : CxX z l g (wC b) (rmx 68) cX11_lost 3 RX11 (some .int) := CX
  have C := CX.1
  refine x_wk (L' := [some (.ref ((wC b).2.2.2 + 0)), some (.int p1), none]) (And.intro rfl (And.intro rfl trivial)) ?_
  rw [rf_lost]
  refine x_aloadn C dX11_lost_0 rfl ?_
  refine x_getR C fl_X11_91 cl_10 (87) nC0 kC0 fC0_13 dX11_lost_1 ?_
  refine x_aloadn C dX11_lost_4 rfl ?_
  refine x_getR C fl_X11_12 cl_10 (1) nC0 kC0 fC0_0 dX11_lost_5 ?_
  refine x_Vm (st := []) C (c_od_take   M) lk_X11_278 nC87 kC87 ⟨_, _, rfl⟩ rfl rfl (Nat.le_of_ble_eq_true rfl) (rmok_x (by decide) (by decide)) ⟨Nat.zero_le _, Nat.zero_le _⟩ dX11_lost_8 (fun v2 M1 => ?_)
  refine x_istoren C dX11_lost_11 (L' := [some (.ref ((wC b).2.2.2 + 0)), some (.int p1), some (.int v2)]) (ltb rfl) rfl ?_
  refine x_aloadn C dX11_lost_12 rfl ?_
  refine x_getR C fl_X11_12 cl_10 (1) nC0 kC0 fC0_0 dX11_lost_13 ?_
  refine x_iconst C dX11_lost_16 (v := (0 : Int32)) (by decide) ?_
  refine x_putI C fl_X11_112 cl_9 fint_9_1 nC1 kC1 fC1_1 dX11_lost_17 ?_
  refine x_ltM (fun M3 => ?_)
  refine x_iloadn C dX11_lost_20 (x := v2) rfl ?_
  refine x_ifeq C dX11_lost_21 (tgt := 29) (by decide) (fun _h => ?_) (fun _h => ?_)
  · exact x_throwW CX hl ⟨by decide, rfl⟩ lx_138 (si := 9) rfl ⟨by decide, by decide, by decide, by decide⟩ dX11_lost_29 dX11_lost_32 dX11_lost_33 dX11_lost_36 dX11_lost_39
  · refine x_iloadn C dX11_lost_24 (x := p1) rfl ?_
    refine x_iconst C dX11_lost_25 (v := (-1 : Int32)) (by decide) ?_
    refine x_icmpge C dX11_lost_26 (tgt := 40) (by decide) (fun _h => ?_) (fun _h => ?_)
    · refine x_aloadn C dX11_lost_40 rfl ?_
      refine x_getR C fl_X11_75 cl_10 (75) nC0 kC0 fC0_11 dX11_lost_41 ?_
      refine x_Vv (st := []) C (c_mv_prepare   M3) lk_X11_199 nC75 kC75 ⟨_, _, rfl⟩ rfl rfl (Nat.le_of_ble_eq_true rfl) (rmok_x (by decide) (by decide)) ⟨Nat.zero_le _, Nat.zero_le _⟩ dX11_lost_44 (fun M4 => ?_)
      refine x_iloadn C dX11_lost_47 (x := p1) rfl ?_
      refine x_iconst C dX11_lost_48 (v := (-1 : Int32)) (by decide) ?_
      refine x_icmpne C dX11_lost_49 (tgt := 69) (by decide) (fun _h => ?_) (fun _h => ?_)
      · refine x_aloadn C dX11_lost_69 rfl ?_
        refine x_getR C fl_X11_91 cl_10 (87) nC0 kC0 fC0_13 dX11_lost_70 ?_
        refine x_aloadn C dX11_lost_73 rfl ?_
        refine x_getR C fl_X11_32 cl_10 (30) nC0 kC0 fC0_4 dX11_lost_74 ?_
        refine x_Vi (st := [.ref ((wC b).2.2.2 + 87)]) C (c_bk_state (Or.inl rfl)  M4) lk_X11_211 nC30 kC30 ⟨_, _, rfl⟩ rfl rfl (Nat.le_of_ble_eq_true rfl) (rmok_x (by decide) (by decide)) ⟨Nat.zero_le _, Nat.zero_le _⟩ dX11_lost_77 (fun v5 => ?_)
        refine x_iloadn C dX11_lost_80 (x := p1) rfl ?_
        refine x_Vi (st := []) C (c_od_first  (v5) (p1) M4) lk_X11_287 nC87 kC87 ⟨_, _, rfl⟩ rfl rfl (Nat.le_of_ble_eq_true rfl) (rmok_x (by decide) (by decide)) ⟨Nat.zero_le _, Nat.zero_le _⟩ dX11_lost_81 (fun v6 => ?_)
        exact x_xret C dX11_lost_84
      · refine x_aloadn C dX11_lost_52 rfl ?_
        refine x_getR C fl_X11_91 cl_10 (87) nC0 kC0 fC0_13 dX11_lost_53 ?_
        refine x_aloadn C dX11_lost_56 rfl ?_
        refine x_getR C fl_X11_32 cl_10 (30) nC0 kC0 fC0_4 dX11_lost_57 ?_
        refine x_Vi (st := [.ref ((wC b).2.2.2 + 87)]) C (c_bk_state (Or.inl rfl)  M4) lk_X11_211 nC30 kC30 ⟨_, _, rfl⟩ rfl rfl (Nat.le_of_ble_eq_true rfl) (rmok_x (by decide) (by decide)) ⟨Nat.zero_le _, Nat.zero_le _⟩ dX11_lost_60 (fun v7 => ?_)
        refine x_Vi (st := []) C (c_od_howMany  (v7) M4) lk_X11_284 nC87 kC87 ⟨_, _, rfl⟩ rfl rfl (Nat.le_of_ble_eq_true rfl) (rmok_x (by decide) (by decide)) ⟨Nat.zero_le _, Nat.zero_le _⟩ dX11_lost_63 (fun v8 => ?_)
        refine x_goto C dX11_lost_66 (tgt := 84) (by decide) ?_
        exact x_xret C dX11_lost_84
    · exact x_throwW CX hl ⟨by decide, rfl⟩ lx_138 (si := 9) rfl ⟨by decide, by decide, by decide, by decide⟩ dX11_lost_29 dX11_lost_32 dX11_lost_33 dX11_lost_36 dX11_lost_39
def rf_fair (p1 : Int32) (p2 : Int32) (p3 : Int32) (p4 : Int32) (p5 : Int32) (M : Mem) : Option XR := (if p2 < 0 then some (1, 0, M) else (if (600 : Int32) < p2 then some (1, 0, M) else (if p3 < 0 then some (1, 0, M) else (if (100 : Int32) < p3 then some (1, 0, M) else (if p4 < (1 : Int32) then some (1, 0, M) else (if (99 : Int32) < p4 then some (1, 0, M) else (if p5 < 0 then some (4, 0, M) else (if p5 < (6 : Int32) then (mv_prepare M).bind fun M1 => (mk_hold (p1) (p2) (p3) (p4) M1).bind fun M2 => (mk_answer (p5) M2).bind fun v3 => some (0, v3, M2) else some (4, 0, M)))))))))
set_option maxHeartbeats 4000000 in
set_option maxRecDepth 20000 in
theorem c_rf_fair {l : Launch} {g : GG} {b : Nat} (hl : l.stackTraces = false) (p1 : Int32) (p2 : Int32) (p3 : Int32) (p4 : Int32) (p5 : Int32) (M : Mem) : CX l g (wC b) (rmx 8) yX11_fair cX11_fair 6 (some .int) [.ref ((wC b).2.2.2 + 0), .int p1, .int p2, .int p3, .int p4, .int p5] M (rf_fair p1 p2 p3 p4 p5 M) := by
  refine CX.of rfl (Nat.le_of_ble_eq_true rfl) (catc rfl (catc rfl (catc rfl (catc rfl (catc rfl (catc rfl cat0)))))) (fun z CX => ?_)
  have CX : CxX z l g (wC b) (rmx 8) cX11_fair 6 RX11 (some .int) := CX
  have C := CX.1
  refine x_wk (L' := [some (.ref ((wC b).2.2.2 + 0)), some (.int p1), some (.int p2), some (.int p3), some (.int p4), some (.int p5)]) (And.intro rfl (And.intro rfl (And.intro rfl (And.intro rfl (And.intro rfl (And.intro rfl trivial)))))) ?_
  rw [rf_fair]
  refine x_iloadn C dX11_fair_0 (x := p2) rfl ?_
  refine x_iflt C dX11_fair_1 (tgt := 34) (by decide) (fun _h => ?_) (fun _h => ?_)
  · exact x_throwW CX hl ⟨by decide, rfl⟩ lx_138 (si := 10) rfl ⟨by decide, by decide, by decide, by decide⟩ dX11_fair_34 dX11_fair_37 dX11_fair_38 dX11_fair_41 dX11_fair_44
  · refine x_iloadn C dX11_fair_4 (x := p2) rfl ?_
    refine x_sipush C dX11_fair_5 (v := (600 : Int32)) (by decide) ?_
    refine x_icmpgt C dX11_fair_8 (tgt := 34) (by decide) (fun _h => ?_) (fun _h => ?_)
    · exact x_throwW CX hl ⟨by decide, rfl⟩ lx_138 (si := 10) rfl ⟨by decide, by decide, by decide, by decide⟩ dX11_fair_34 dX11_fair_37 dX11_fair_38 dX11_fair_41 dX11_fair_44
    · refine x_iloadn C dX11_fair_11 (x := p3) rfl ?_
      refine x_iflt C dX11_fair_12 (tgt := 34) (by decide) (fun _h => ?_) (fun _h => ?_)
      · exact x_throwW CX hl ⟨by decide, rfl⟩ lx_138 (si := 10) rfl ⟨by decide, by decide, by decide, by decide⟩ dX11_fair_34 dX11_fair_37 dX11_fair_38 dX11_fair_41 dX11_fair_44
      · refine x_iloadn C dX11_fair_15 (x := p3) rfl ?_
        refine x_bipush C dX11_fair_16 (v := (100 : Int32)) (by decide) ?_
        refine x_icmpgt C dX11_fair_18 (tgt := 34) (by decide) (fun _h => ?_) (fun _h => ?_)
        · exact x_throwW CX hl ⟨by decide, rfl⟩ lx_138 (si := 10) rfl ⟨by decide, by decide, by decide, by decide⟩ dX11_fair_34 dX11_fair_37 dX11_fair_38 dX11_fair_41 dX11_fair_44
        · refine x_iload C dX11_fair_21 (x := p4) rfl ?_
          refine x_iconst C dX11_fair_23 (v := (1 : Int32)) (by decide) ?_
          refine x_icmplt C dX11_fair_24 (tgt := 34) (by decide) (fun _h => ?_) (fun _h => ?_)
          · exact x_throwW CX hl ⟨by decide, rfl⟩ lx_138 (si := 10) rfl ⟨by decide, by decide, by decide, by decide⟩ dX11_fair_34 dX11_fair_37 dX11_fair_38 dX11_fair_41 dX11_fair_44
          · refine x_iload C dX11_fair_27 (x := p4) rfl ?_
            refine x_bipush C dX11_fair_29 (v := (99 : Int32)) (by decide) ?_
            refine x_icmple C dX11_fair_31 (tgt := 45) (by decide) (fun _h => ?_) (fun _h => ?_)
            · refine x_iload C dX11_fair_45 (x := p5) rfl ?_
              refine x_iflt C dX11_fair_47 (tgt := 57) (by decide) (fun _h => ?_) (fun _h => ?_)
              · exact x_throwX CX hl nx0 nx1 nx2 nx5 ⟨by decide, rfl⟩ lxx_198 (si := 4) rfl ⟨by decide, by decide, by decide, by decide⟩ dX11_fair_57 dX11_fair_60 dX11_fair_61 dX11_fair_63 dX11_fair_66
              · refine x_iload C dX11_fair_50 (x := p5) rfl ?_
                refine x_bipush C dX11_fair_52 (v := (6 : Int32)) (by decide) ?_
                refine x_icmplt C dX11_fair_54 (tgt := 67) (by decide) (fun _h => ?_) (fun _h => ?_)
                · refine x_aloadn C dX11_fair_67 rfl ?_
                  refine x_getR C fl_X11_75 cl_10 (75) nC0 kC0 fC0_11 dX11_fair_68 ?_
                  refine x_Vv (st := []) C (c_mv_prepare   M) lk_X11_199 nC75 kC75 ⟨_, _, rfl⟩ rfl rfl (Nat.le_of_ble_eq_true rfl) (rmok_x (by decide) (by decide)) ⟨Nat.zero_le _, Nat.zero_le _⟩ dX11_fair_71 (fun M1 => ?_)
                  refine x_aloadn C dX11_fair_74 rfl ?_
                  refine x_getR C fl_X11_100 cl_10 (89) nC0 kC0 fC0_14 dX11_fair_75 ?_
                  refine x_iloadn C dX11_fair_78 (x := p1) rfl ?_
                  refine x_iloadn C dX11_fair_79 (x := p2) rfl ?_
                  refine x_iloadn C dX11_fair_80 (x := p3) rfl ?_
                  refine x_iload C dX11_fair_81 (x := p4) rfl ?_
                  refine x_Vv (st := []) C (c_mk_hold  (p1) (p2) (p3) (p4) M1) lk_X11_292 nC89 kC89 ⟨_, _, rfl⟩ rfl rfl (Nat.le_of_ble_eq_true rfl) (rmok_x (by decide) (by decide)) ⟨Nat.zero_le _, Nat.zero_le _⟩ dX11_fair_83 (fun M2 => ?_)
                  refine x_aloadn C dX11_fair_86 rfl ?_
                  refine x_getR C fl_X11_100 cl_10 (89) nC0 kC0 fC0_14 dX11_fair_87 ?_
                  refine x_iload C dX11_fair_90 (x := p5) rfl ?_
                  refine x_Vi (st := []) C (c_mk_answer  (p5) M2) lk_X11_296 nC89 kC89 ⟨_, _, rfl⟩ rfl rfl (Nat.le_of_ble_eq_true rfl) (rmok_x (by decide) (by decide)) ⟨Nat.zero_le _, Nat.zero_le _⟩ dX11_fair_92 (fun v3 => ?_)
                  exact x_xret C dX11_fair_95
                · exact x_throwX CX hl nx0 nx1 nx2 nx5 ⟨by decide, rfl⟩ lxx_198 (si := 4) rfl ⟨by decide, by decide, by decide, by decide⟩ dX11_fair_57 dX11_fair_60 dX11_fair_61 dX11_fair_63 dX11_fair_66
            · exact x_throwW CX hl ⟨by decide, rfl⟩ lx_138 (si := 10) rfl ⟨by decide, by decide, by decide, by decide⟩ dX11_fair_34 dX11_fair_37 dX11_fair_38 dX11_fair_41 dX11_fair_44
