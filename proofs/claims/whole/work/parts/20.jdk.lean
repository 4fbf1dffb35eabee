def ji_bitCount (p1 : Int32) (M : Mem) : Option Int32 := lt1 ((p1 - ((iushr p1 (1 : Int32)) &&& (1431655765 : Int32)))) fun v1 => lt1 (((v1 &&& (858993459 : Int32)) + ((iushr v1 (2 : Int32)) &&& (858993459 : Int32)))) fun v2 => lt1 (((v2 + (iushr v2 (4 : Int32))) &&& (252645135 : Int32))) fun v3 => lt1 (((v3 + (iushr v3 (8 : Int32))) + (iushr (v3 + (iushr v3 (8 : Int32))) (16 : Int32)))) fun v4 => some ((v4 &&& (63 : Int32)))
set_option maxHeartbeats 4000000 in
set_option maxRecDepth 20000 in
theorem c_ji_bitCount {l : Launch} {g : GG} {b : Nat} (p1 : Int32) (M : Mem) : CT l g (wC b) (rmd 1) yJ6_bitCount_0f7a4 cJ6_bitCount_0f7a4 1 (some .int) [.int p1] M (finI M) (ji_bitCount p1 M) := by
  refine CT.of rfl (Nat.le_of_ble_eq_true rfl) (catc rfl cat0) (fun z C => ?_)
  have C : Cx z l g (wC b) (rmd 1) cJ6_bitCount_0f7a4 1 RJ6 (some .int) := C
  refine x_wk (L' := [some (.int p1)]) (And.intro rfl trivial) ?_
  rw [ji_bitCount]
  refine x_iloadn C dJ6_bitCount_0f7a4_0 (x := p1) rfl ?_
  refine x_iloadn C dJ6_bitCount_0f7a4_1 (x := p1) rfl ?_
  refine x_iconst C dJ6_bitCount_0f7a4_2 (v := (1 : Int32)) (by decide) ?_
  refine x_iushr C dJ6_bitCount_0f7a4_3 ?_
  refine x_ldcw C dJ6_bitCount_0f7a4_4 (v := (1431655765 : Int32)) cn_J6_265 ?_
  refine x_iand C dJ6_bitCount_0f7a4_7 ?_
  refine x_isub C dJ6_bitCount_0f7a4_8 ?_
  refine x_lti (fun v1 => ?_)
  refine x_istoren C dJ6_bitCount_0f7a4_9 (L' := [some (.int v1)]) (ltb rfl) rfl ?_
  refine x_iloadn C dJ6_bitCount_0f7a4_10 (x := v1) rfl ?_
  refine x_ldcw C dJ6_bitCount_0f7a4_11 (v := (858993459 : Int32)) cn_J6_266 ?_
  refine x_iand C dJ6_bitCount_0f7a4_14 ?_
  refine x_iloadn C dJ6_bitCount_0f7a4_15 (x := v1) rfl ?_
  refine x_iconst C dJ6_bitCount_0f7a4_16 (v := (2 : Int32)) (by decide) ?_
  refine x_iushr C dJ6_bitCount_0f7a4_17 ?_
  refine x_ldcw C dJ6_bitCount_0f7a4_18 (v := (858993459 : Int32)) cn_J6_266 ?_
  refine x_iand C dJ6_bitCount_0f7a4_21 ?_
  refine x_iadd C dJ6_bitCount_0f7a4_22 ?_
  refine x_lti (fun v2 => ?_)
  refine x_istoren C dJ6_bitCount_0f7a4_23 (L' := [some (.int v2)]) (ltb rfl) rfl ?_
  refine x_iloadn C dJ6_bitCount_0f7a4_24 (x := v2) rfl ?_
  refine x_iloadn C dJ6_bitCount_0f7a4_25 (x := v2) rfl ?_
  refine x_iconst C dJ6_bitCount_0f7a4_26 (v := (4 : Int32)) (by decide) ?_
  refine x_iushr C dJ6_bitCount_0f7a4_27 ?_
  refine x_iadd C dJ6_bitCount_0f7a4_28 ?_
  refine x_ldcw C dJ6_bitCount_0f7a4_29 (v := (252645135 : Int32)) cn_J6_267 ?_
  refine x_iand C dJ6_bitCount_0f7a4_32 ?_
  refine x_lti (fun v3 => ?_)
  refine x_istoren C dJ6_bitCount_0f7a4_33 (L' := [some (.int v3)]) (ltb rfl) rfl ?_
  refine x_iloadn C dJ6_bitCount_0f7a4_34 (x := v3) rfl ?_
  refine x_iloadn C dJ6_bitCount_0f7a4_35 (x := v3) rfl ?_
  refine x_bipush C dJ6_bitCount_0f7a4_36 (v := (8 : Int32)) (by decide) ?_
  refine x_iushr C dJ6_bitCount_0f7a4_38 ?_
  refine x_iadd C dJ6_bitCount_0f7a4_39 ?_
  refine x_istoren C dJ6_bitCount_0f7a4_40 (L' := [some (.int (v3 + (iushr v3 (8 : Int32))))]) (ltb rfl) rfl ?_
  refine x_iloadn C dJ6_bitCount_0f7a4_41 (x := (v3 + (iushr v3 (8 : Int32)))) rfl ?_
  refine x_iloadn C dJ6_bitCount_0f7a4_42 (x := (v3 + (iushr v3 (8 : Int32)))) rfl ?_
  refine x_bipush C dJ6_bitCount_0f7a4_43 (v := (16 : Int32)) (by decide) ?_
  refine x_iushr C dJ6_bitCount_0f7a4_45 ?_
  refine x_iadd C dJ6_bitCount_0f7a4_46 ?_
  refine x_lti (fun v4 => ?_)
  refine x_istoren C dJ6_bitCount_0f7a4_47 (L' := [some (.int v4)]) (ltb rfl) rfl ?_
  refine x_iloadn C dJ6_bitCount_0f7a4_48 (x := v4) rfl ?_
  refine x_bipush C dJ6_bitCount_0f7a4_49 (v := (63 : Int32)) (by decide) ?_
  refine x_iand C dJ6_bitCount_0f7a4_51 ?_
  exact x_iret C dJ6_bitCount_0f7a4_52 rfl
def ji_compare (p1 : Int32) (p2 : Int32) (M : Mem) : Option Int32 := (if p1 < p2 then some ((-1 : Int32)) else (if p1 = p2 then some ((0 : Int32)) else some ((1 : Int32))))
set_option maxHeartbeats 4000000 in
set_option maxRecDepth 20000 in
theorem c_ji_compare {l : Launch} {g : GG} {b : Nat} (p1 : Int32) (p2 : Int32) (M : Mem) : CT l g (wC b) (rmd 1) yJ6_compare_7cf53 cJ6_compare_7cf53 2 (some .int) [.int p1, .int p2] M (finI M) (ji_compare p1 p2 M) := by
  refine CT.of rfl (Nat.le_of_ble_eq_true rfl) (catc rfl (catc rfl cat0)) (fun z C => ?_)
  have C : Cx z l g (wC b) (rmd 1) cJ6_compare_7cf53 2 RJ6 (some .int) := C
  refine x_wk (L' := [some (.int p1), some (.int p2)]) (And.intro rfl (And.intro rfl trivial)) ?_
  rw [ji_compare]
  refine x_iloadn C dJ6_compare_7cf53_0 (x := p1) rfl ?_
  refine x_iloadn C dJ6_compare_7cf53_1 (x := p2) rfl ?_
  refine x_icmpge C dJ6_compare_7cf53_2 (tgt := 9) (by decide) (fun _h => ?_) (fun _h => ?_)
  · refine x_iloadn C dJ6_compare_7cf53_9 (x := p1) rfl ?_
    refine x_iloadn C dJ6_compare_7cf53_10 (x := p2) rfl ?_
    refine x_icmpne C dJ6_compare_7cf53_11 (tgt := 18) (by decide) (fun _h => ?_) (fun _h => ?_)
    · refine x_iconst C dJ6_compare_7cf53_18 (v := (1 : Int32)) (by decide) ?_
      exact x_iret C dJ6_compare_7cf53_19 rfl
    · refine x_iconst C dJ6_compare_7cf53_14 (v := (0 : Int32)) (by decide) ?_
      refine x_goto C dJ6_compare_7cf53_15 (tgt := 19) (by decide) ?_
      exact x_iret C dJ6_compare_7cf53_19 rfl
  · refine x_iconst C dJ6_compare_7cf53_5 (v := (-1 : Int32)) (by decide) ?_
    refine x_goto C dJ6_compare_7cf53_6 (tgt := 19) (by decide) ?_
    exact x_iret C dJ6_compare_7cf53_19 rfl
def jm_floorMod (p1 : Int32) (p2 : Int32) (M : Mem) : Option Int32 := chk (!(p2 == 0)) ((if (p1 ^^^ p2) < 0 then (if (irem p1 p2) = 0 then some ((irem p1 p2)) else some (((irem p1 p2) + p2))) else some ((irem p1 p2))))
set_option maxHeartbeats 4000000 in
set_option maxRecDepth 20000 in
theorem c_jm_floorMod {l : Launch} {g : GG} {b : Nat} (p1 : Int32) (p2 : Int32) (M : Mem) : CT l g (wC b) (rmd 1) yJ9_floorMod_7cf53 cJ9_floorMod_7cf53 3 (some .int) [.int p1, .int p2] M (finI M) (jm_floorMod p1 p2 M) := by
  refine CT.of (by decide +kernel) (Nat.le_of_ble_eq_true rfl) (catc rfl (catc rfl cat0)) (fun z C => ?_)
  have C : Cx z l g (wC b) (rmd 1) cJ9_floorMod_7cf53 3 RJ9 (some .int) := C
  refine x_wk (L' := [some (.int p1), some (.int p2), none]) (And.intro rfl (And.intro rfl trivial)) ?_
  rw [jm_floorMod]
  refine x_iloadn C dJ9_floorMod_7cf53_0 (x := p1) rfl ?_
  refine x_iloadn C dJ9_floorMod_7cf53_1 (x := p2) rfl ?_
  refine x_iremc C dJ9_floorMod_7cf53_2 ?_
  refine x_istoren C dJ9_floorMod_7cf53_3 (L' := [some (.int p1), some (.int p2), some (.int (irem p1 p2))]) (ltb rfl) rfl ?_
  refine x_iloadn C dJ9_floorMod_7cf53_4 (x := p1) rfl ?_
  refine x_iloadn C dJ9_floorMod_7cf53_5 (x := p2) rfl ?_
  refine x_ixor C dJ9_floorMod_7cf53_6 ?_
  refine x_ifge C dJ9_floorMod_7cf53_7 (tgt := 18) (by decide) (fun _h => ?_) (fun _h => ?_)
  · refine x_iloadn C dJ9_floorMod_7cf53_18 (x := (irem p1 p2)) rfl ?_
    exact x_iret C dJ9_floorMod_7cf53_19 rfl
  · refine x_iloadn C dJ9_floorMod_7cf53_10 (x := (irem p1 p2)) rfl ?_
    refine x_ifeq C dJ9_floorMod_7cf53_11 (tgt := 18) (by decide) (fun _h => ?_) (fun _h => ?_)
    · refine x_iloadn C dJ9_floorMod_7cf53_18 (x := (irem p1 p2)) rfl ?_
      exact x_iret C dJ9_floorMod_7cf53_19 rfl
    · refine x_iloadn C dJ9_floorMod_7cf53_14 (x := (irem p1 p2)) rfl ?_
      refine x_iloadn C dJ9_floorMod_7cf53_15 (x := p2) rfl ?_
      refine x_iadd C dJ9_floorMod_7cf53_16 ?_
      exact x_iret C dJ9_floorMod_7cf53_17 rfl
def ja_fill_L5 (p1 : Nat) (len : Nat) (p2 : Int32) (y3 : Int32) (K : Mem → Option Mem) : Nat → Int32 → Mem → Option Mem
  | 0, _, _ => none
  | fu + 1, x2, M => (if x2 < y3 then chk (inb x2 len) (lt1 (wr M p1 x2.toNatClampNeg p2) fun M1 => ja_fill_L5 p1 len p2 y3 K fu ((x2 + (1 : Int32))) (M1)) else K (M))
def ja_fill (p1 : Nat) (len : Nat) (p2 : Int32) (M : Mem) : Option Mem := ja_fill_L5 p1 len p2 ((Int32.ofNat len)) (fun M3 => some M3) FU ((0 : Int32)) M
set_option maxHeartbeats 4000000 in
set_option maxRecDepth 20000 in
theorem w_ja_fill_L5 {z : ZT} {l : Launch} {g : GG} {w : WD} {p1 : Nat} {len : Nat} (C : Cx z l g w (rmd 1) cJ7_fill_53178 4 RJ7 none) (ha : p1 < w.2.2.1) (hk : w.1 p1 = (1, len)) (hl : len < 2 ^ 31) (p2 : Int32) (y3 : Int32) {K : Mem → Option Mem} (hK : ∀ (M : Mem) , XG z g w 4 (ZQ z g w finV) 0 0 20 [none, none, none, none] [] M (K M)) : ∀ (fu : Nat) (x2 : Int32) (M : Mem), XG z g w 4 (ZQ z g w finV) 0 0 5 [some (.ref (w.2.2.2 + p1)), some (.int p2), some (.int x2), some (.int y3)] [] M (ja_fill_L5 p1 len p2 y3 K fu x2 M) := by
  intro fu
  induction fu with
  | zero => intro x2 M; exact x_none
  | succ fu ih =>
    intro x2 M
    rw [ja_fill_L5]
    refine x_iloadn C dJ7_fill_53178_5 (x := x2) rfl ?_
    refine x_iloadn C dJ7_fill_53178_6 (x := y3) rfl ?_
    refine x_icmpge C dJ7_fill_53178_7 (tgt := 20) (by decide) (fun _h => ?_) (fun _h => ?_)
    · exact x_wk (L' := [none, none, none, none]) (trivial) (hK (M))
    · refine x_aloadn C dJ7_fill_53178_10 rfl ?_
      refine x_iloadn C dJ7_fill_53178_11 (x := x2) rfl ?_
      refine x_iloadn C dJ7_fill_53178_12 (x := p2) rfl ?_
      refine x_iast C ha hk dJ7_fill_53178_13 ?_
      refine x_ltM (fun M1 => ?_)
      refine x_iinc C dJ7_fill_53178_14 (v := (x2 + (1 : Int32))) rfl rfl (L' := [some (.ref (w.2.2.2 + p1)), some (.int p2), some (.int (x2 + (1 : Int32))), some (.int y3)]) rfl ?_
      refine x_goto C dJ7_fill_53178_17 (tgt := 5) (by decide) ?_
      exact x_wk (L' := [some (.ref (w.2.2.2 + p1)), some (.int p2), some (.int (x2 + (1 : Int32))), some (.int y3)]) (And.intro rfl (And.intro rfl (And.intro rfl (And.intro rfl trivial)))) (ih ((x2 + (1 : Int32))) (M1))
set_option maxHeartbeats 4000000 in
set_option maxRecDepth 20000 in
theorem c_ja_fill {l : Launch} {g : GG} {w : WD} {p1 : Nat} {len : Nat} (ha : p1 < w.2.2.1) (hk : w.1 p1 = (1, len)) (hl : len < 2 ^ 31) (p2 : Int32) (M : Mem) : CT l g w (rmd 1) yJ7_fill_53178 cJ7_fill_53178 4 none [.ref (w.2.2.2 + p1), .int p2] M finV (ja_fill p1 len p2 M) := by
  refine CT.of rfl (Nat.le_of_ble_eq_true rfl) (catc rfl (catc rfl cat0)) (fun z C => ?_)
  have C : Cx z l g w (rmd 1) cJ7_fill_53178 4 RJ7 none := C
  refine x_wk (L' := [some (.ref (w.2.2.2 + p1)), some (.int p2), none, none]) (And.intro rfl (And.intro rfl trivial)) ?_
  rw [ja_fill]
  refine x_iconst C dJ7_fill_53178_0 (v := (0 : Int32)) (by decide) ?_
  refine x_istoren C dJ7_fill_53178_1 (L' := [some (.ref (w.2.2.2 + p1)), some (.int p2), some (.int (0 : Int32)), none]) (ltb rfl) rfl ?_
  refine x_aloadn C dJ7_fill_53178_2 rfl ?_
  refine x_alen C ha hk (v := Int32.ofNat len) rfl dJ7_fill_53178_3 ?_
  refine x_istoren C dJ7_fill_53178_4 (L' := [some (.ref (w.2.2.2 + p1)), some (.int p2), some (.int (0 : Int32)), some (.int (Int32.ofNat len))]) (ltb rfl) rfl ?_
  refine x_wk (L' := [some (.ref (w.2.2.2 + p1)), some (.int p2), some (.int (0 : Int32)), some (.int (Int32.ofNat len))]) (And.intro rfl (And.intro rfl (And.intro rfl (And.intro rfl trivial)))) (w_ja_fill_L5 C ha hk hl p2 ((Int32.ofNat len))  (fun M3 => ?_) FU ((0 : Int32)) M)
  exact x_vret C dJ7_fill_53178_20 rfl
