def lft (M : Mem) (O : Option XR) : Option XR := O.map (fun a => (a.1, a.2.1, pst M 0 95 a.2.2))
/-- what a helper makes of an answer: 0 and the answer put down, or the number of its clause -/
def hlp1 (e1 : Nat) (b : XR) : Option (Int32 × Mem) := if b.1 = 0 then some (0, wr b.2.2 111 0 b.2.1) else if b.1 = e1 then some (1, b.2.2) else none
def hlp2 (e1 e2 : Nat) (b : XR) : Option (Int32 × Mem) := if b.1 = 0 then some (0, wr b.2.2 111 0 b.2.1) else if b.1 = e1 then some (1, b.2.2) else if b.1 = e2 then some (2, b.2.2) else none
abbrev wL (b : Nat) : WD := (kdL, fcL, 112, b)
section Rows
variable {α : Type} {z : ZT} {l : Launch} {g : GG} {w : WD} {R : Room} {cc : ByteArray} {nL : Nat} {own : String} {ret : Option FieldType} {Qs : α → State → Prop} {k n pc : Nat} {L L' : List (Option Value)} {st : List Value} {M : Mem} {O : Option α}
theorem x_last (C : Cx z l g w R cc nL own ret) {r len : Nat} {i v : Int32} {j : Nat} (hr : r < w.2.2.1) (hk : w.1 r = (3, len)) (hi : inb i len = true) (hj : i.toNatClampNeg = j) (d : decode cc pc = .ok (.lastore, 1))
    (kk : XG z g w nL Qs k n (pc + 1) L st (wr M r j v) O) : XG z g w nL Qs k n pc L (.long v.toInt64 :: .int i :: .ref (w.2.2.2 + r) :: st) M O := by
  subst hj
  refine fun a ha H locs ls hlh hP hS => va_last C.1 C.2.1 C.2.2.2.2.2.2.2.1.1 hP wld_D hS r 3 (wld_k hr hk) rfl (inb_in hi) d (fun H1 locs1 hP1 _ hS1 => kk a ha H1 locs1 ls hlh ?_ hS1)
  rw [show (wld g w M).set r (w.2.2.2 + r, .inl (g.2.1 3, len, .inr (.inl (vp_updL (fun i => (M r i).toInt64) i.toNatClampNeg v.toInt64)))) = wld g w (wr M r i.toNatClampNeg v) from wld_set hk (by
    show _ = (Sum.inl (g.2.1 3, len, .inr (.inl (fun j => (if j = i.toNatClampNeg then v else M r j).toInt64))) : va_E)
    refine congrArg (fun f => (Sum.inl (g.2.1 3, len, .inr (.inl f)) : va_E)) (funext fun j => ?_)
    unfold vp_updL
    by_cases h : j = i.toNatClampNeg
    · rw [if_pos h, if_pos h]
    · rw [if_neg h, if_neg h])] at hP1
  exact hP1
theorem x_hnone {E : String} : XH z g w nL Qs pc L st M (none : Option α) E := fun _ h => by cases h
end Rows
theorem c_lw_river {l : Launch} {g : GG} {b : Nat} (hl : l.stackTraces = false) (M : Mem) : CH l g (wL b) (rmx 11) yL_river cL_river 3 [(0, 8, 11, 13), (0, 8, 14, 15)] [.ref (b + 0), .ref (b + 111)] M ((lft M (rf_river  (cut M 0 95))).bind (hlp2 1 2)) := by
  refine CH.of (by decide +kernel) (Nat.le_of_ble_eq_true rfl) (catc rfl (catc rfl cat0)) (fun z C ht => ?_)
  refine x_aloadn C dL_river_0 rfl ?_
  refine x_iconst C dL_river_1 (v := 0) (by decide) ?_
  refine x_aloadn C dL_river_2 rfl ?_
  refine x_callX (st := [.int 0, .ref (b + 111)]) C ((c_rf_river hl  (cut M 0 95)).lift (subC b)) lk_L_7 (fun H hP _ _ => recv_r C (r := 0) (by show 0 < 112; decide) rfl rfl hP) rfl rfl (Nat.le_of_ble_eq_true rfl) ⟨by decide, by decide⟩ ⟨by decide, by decide⟩ dL_river_3 (fun a ha h0 => ?_) (fun a ha h0 => ?_)
  · unfold hlp2
    rw [if_pos h0]
    refine x_i2l C dL_river_6 ?_
    refine x_last C (r := 111) (len := 1) (j := 0) (by show 111 < 112; decide) rfl (by decide) (by decide) dL_river_7 ?_
    refine x_goto C dL_river_8 (tgt := 17) (by decide) ?_
    refine x_iconst C dL_river_17 (v := 0) (by decide) ?_
    exact x_hret C dL_river_18
  · unfold hlp2
    rw [if_neg h0]
    by_cases h1 : a.1 = 1
    · rw [if_pos h1, show exN a.1 = "java/lang/IllegalArgumentException" by rw [h1]; rfl]
      refine x_catch (E := "java/lang/IllegalArgumentException") C [] ⟨0, 8, 11, 13⟩ [⟨0, 8, 14, 15⟩] ht (fun y hy => absurd hy List.not_mem_nil) (by decide) (by decide) (tb3 189 _ rfl) (by decide) (fun q => ?_)
      refine x_astoren C dL_river_11 (ltb rfl) rfl ?_
      refine x_iconst C dL_river_12 (v := 1) (by decide) ?_
      exact x_hret C dL_river_13
    · rw [if_neg h1]
      by_cases h2 : a.1 = 2
      · rw [if_pos h2, show exN a.1 = "java/lang/UnsupportedOperationException" by rw [h2]; rfl]
        refine x_catch (E := "java/lang/UnsupportedOperationException") C [⟨0, 8, 11, 13⟩] ⟨0, 8, 14, 15⟩ [] ht (fun y hy => by rw [List.mem_singleton.mp hy]; exact Or.inr ⟨by decide, "java/lang/IllegalArgumentException", tb3 189 _ rfl, by decide⟩) (by decide) (by decide) (tb3 190 _ rfl) (by decide) (fun q => ?_)
        refine x_astoren C dL_river_14 (ltb rfl) rfl ?_
        refine x_iconst C dL_river_15 (v := 2) (by decide) ?_
        exact x_hret C dL_river_16
      · rw [if_neg h2]
        exact x_hnone
theorem c_lw_rule {l : Launch} {g : GG} {b : Nat} (hl : l.stackTraces = false) (M : Mem) : CH l g (wL b) (rmx 56) yL_rule cL_rule 3 [(0, 8, 11, 13)] [.ref (b + 0), .ref (b + 111)] M ((lft M (rf_rule  (cut M 0 95))).bind (hlp1 1)) := by
  refine CH.of (by decide +kernel) (Nat.le_of_ble_eq_true rfl) (catc rfl (catc rfl cat0)) (fun z C ht => ?_)
  refine x_aloadn C dL_rule_0 rfl ?_
  refine x_iconst C dL_rule_1 (v := 0) (by decide) ?_
  refine x_aloadn C dL_rule_2 rfl ?_
  refine x_callX (st := [.int 0, .ref (b + 111)]) C ((c_rf_rule hl  (cut M 0 95)).lift (subC b)) lk_L_17 (fun H hP _ _ => recv_r C (r := 0) (by show 0 < 112; decide) rfl rfl hP) rfl rfl (Nat.le_of_ble_eq_true rfl) ⟨by decide, by decide⟩ ⟨by decide, by decide⟩ dL_rule_3 (fun a ha h0 => ?_) (fun a ha h0 => ?_)
  · unfold hlp1
    rw [if_pos h0]
    refine x_i2l C dL_rule_6 ?_
    refine x_last C (r := 111) (len := 1) (j := 0) (by show 111 < 112; decide) rfl (by decide) (by decide) dL_rule_7 ?_
    refine x_goto C dL_rule_8 (tgt := 14) (by decide) ?_
    refine x_iconst C dL_rule_14 (v := 0) (by decide) ?_
    exact x_hret C dL_rule_15
  · unfold hlp1
    rw [if_neg h0]
    by_cases h1 : a.1 = 1
    · rw [if_pos h1, show exN a.1 = "java/lang/IllegalArgumentException" by rw [h1]; rfl]
      refine x_catch (E := "java/lang/IllegalArgumentException") C [] ⟨0, 8, 11, 13⟩ [] ht (fun y hy => absurd hy List.not_mem_nil) (by decide) (by decide) (tb3 189 _ rfl) (by decide) (fun q => ?_)
      refine x_astoren C dL_rule_11 (ltb rfl) rfl ?_
      refine x_iconst C dL_rule_12 (v := 1) (by decide) ?_
      exact x_hret C dL_rule_13
    · rw [if_neg h1]
      exact x_hnone
theorem c_lw_look {l : Launch} {g : GG} {b : Nat} (hl : l.stackTraces = false) (p1 : Int32) (p2 : Int32) (M : Mem) : CH l g (wL b) (rmx 7) yL_look cL_look 5 [(0, 10, 13, 24), (0, 10, 17, 26)] [.ref (b + 0), .int p1, .int p2, .ref (b + 111)] M ((lft M (rf_look p1 p2 (cut M 0 95))).bind (hlp2 3 4)) := by
  refine CH.of (by decide +kernel) (Nat.le_of_ble_eq_true rfl) (catc rfl (catc rfl (catc rfl (catc rfl cat0)))) (fun z C ht => ?_)
  refine x_aloadn C dL_look_0 rfl ?_
  refine x_iconst C dL_look_1 (v := 0) (by decide) ?_
  refine x_aloadn C dL_look_2 rfl ?_
  refine x_iloadn C dL_look_3 rfl ?_
  refine x_iloadn C dL_look_4 rfl ?_
  refine x_callX (st := [.int 0, .ref (b + 111)]) C ((c_rf_look hl p1 p2 (cut M 0 95)).lift (subC b)) lk_L_20 (fun H hP _ _ => recv_r C (r := 0) (by show 0 < 112; decide) rfl rfl hP) rfl rfl (Nat.le_of_ble_eq_true rfl) ⟨by decide, by decide⟩ ⟨by decide, by decide⟩ dL_look_5 (fun a ha h0 => ?_) (fun a ha h0 => ?_)
  · unfold hlp2
    rw [if_pos h0]
    refine x_i2l C dL_look_8 ?_
    refine x_last C (r := 111) (len := 1) (j := 0) (by show 111 < 112; decide) rfl (by decide) (by decide) dL_look_9 ?_
    refine x_goto C dL_look_10 (tgt := 21) (by decide) ?_
    refine x_iconst C dL_look_21 (v := 0) (by decide) ?_
    exact x_hret C dL_look_22
  · unfold hlp2
    rw [if_neg h0]
    by_cases h1 : a.1 = 3
    · rw [if_pos h1, show exN a.1 = "java/lang/IndexOutOfBoundsException" by rw [h1]; rfl]
      refine x_catch (E := "java/lang/IndexOutOfBoundsException") C [] ⟨0, 10, 13, 24⟩ [⟨0, 10, 17, 26⟩] ht (fun y hy => absurd hy List.not_mem_nil) (by decide) (by decide) (tb5 79 _ rfl) (by decide) (fun q => ?_)
      refine x_astore C dL_look_13 (ltb rfl) rfl ?_
      refine x_iconst C dL_look_15 (v := 1) (by decide) ?_
      exact x_hret C dL_look_16
    · rw [if_neg h1]
      by_cases h2 : a.1 = 4
      · rw [if_pos h2, show exN a.1 = "java/util/NoSuchElementException" by rw [h2]; rfl]
        refine x_catch (E := "java/util/NoSuchElementException") C [⟨0, 10, 13, 24⟩] ⟨0, 10, 17, 26⟩ [] ht (fun y hy => by rw [List.mem_singleton.mp hy]; exact Or.inr ⟨by decide, "java/lang/IndexOutOfBoundsException", tb5 79 _ rfl, by decide⟩) (by decide) (by decide) (tb5 80 _ rfl) (by decide) (fun q => ?_)
        refine x_astore C dL_look_17 (ltb rfl) rfl ?_
        refine x_iconst C dL_look_19 (v := 2) (by decide) ?_
        exact x_hret C dL_look_20
      · rw [if_neg h2]
        exact x_hnone
theorem c_lw_cross {l : Launch} {g : GG} {b : Nat} (hl : l.stackTraces = false) (p1 : Int32) (p2 : Int32) (M : Mem) : CH l g (wL b) (rmx 7) yL_cross cL_cross 5 [(0, 10, 13, 31)] [.ref (b + 0), .int p1, .int p2, .ref (b + 111)] M ((lft M (rf_cross p1 p2 (cut M 0 95))).bind (hlp1 5)) := by
  refine CH.of (by decide +kernel) (Nat.le_of_ble_eq_true rfl) (catc rfl (catc rfl (catc rfl (catc rfl cat0)))) (fun z C ht => ?_)
  refine x_aloadn C dL_cross_0 rfl ?_
  refine x_iconst C dL_cross_1 (v := 0) (by decide) ?_
  refine x_aloadn C dL_cross_2 rfl ?_
  refine x_iloadn C dL_cross_3 rfl ?_
  refine x_iloadn C dL_cross_4 rfl ?_
  refine x_callX (st := [.int 0, .ref (b + 111)]) C ((c_rf_cross hl p1 p2 (cut M 0 95)).lift (subC b)) lk_L_28 (fun H hP _ _ => recv_r C (r := 0) (by show 0 < 112; decide) rfl rfl hP) rfl rfl (Nat.le_of_ble_eq_true rfl) ⟨by decide, by decide⟩ ⟨by decide, by decide⟩ dL_cross_5 (fun a ha h0 => ?_) (fun a ha h0 => ?_)
  · unfold hlp1
    rw [if_pos h0]
    refine x_i2l C dL_cross_8 ?_
    refine x_last C (r := 111) (len := 1) (j := 0) (by show 111 < 112; decide) rfl (by decide) (by decide) dL_cross_9 ?_
    refine x_goto C dL_cross_10 (tgt := 17) (by decide) ?_
    refine x_iconst C dL_cross_17 (v := 0) (by decide) ?_
    exact x_hret C dL_cross_18
  · unfold hlp1
    rw [if_neg h0]
    by_cases h1 : a.1 = 5
    · rw [if_pos h1, show exN a.1 = "java/lang/IllegalStateException" by rw [h1]; rfl]
      refine x_catch (E := "java/lang/IllegalStateException") C [] ⟨0, 10, 13, 31⟩ [] ht (fun y hy => absurd hy List.not_mem_nil) (by decide) (by decide) (tb5 126 _ rfl) (by decide) (fun q => ?_)
      refine x_astore C dL_cross_13 (ltb rfl) rfl ?_
      refine x_iconst C dL_cross_15 (v := 1) (by decide) ?_
      exact x_hret C dL_cross_16
    · rw [if_neg h1]
      exact x_hnone
theorem c_lw_swim {l : Launch} {g : GG} {b : Nat} (hl : l.stackTraces = false) (p1 : Int32) (M : Mem) : CH l g (wL b) (rmx 7) yL_swim cL_swim 4 [(0, 9, 12, 24), (0, 9, 15, 31)] [.ref (b + 0), .int p1, .ref (b + 111)] M ((lft M (rf_swim p1 (cut M 0 95))).bind (hlp2 3 5)) := by
  refine CH.of (by decide +kernel) (Nat.le_of_ble_eq_true rfl) (catc rfl (catc rfl (catc rfl cat0))) (fun z C ht => ?_)
  refine x_aloadn C dL_swim_0 rfl ?_
  refine x_iconst C dL_swim_1 (v := 0) (by decide) ?_
  refine x_aloadn C dL_swim_2 rfl ?_
  refine x_iloadn C dL_swim_3 rfl ?_
  refine x_callX (st := [.int 0, .ref (b + 111)]) C ((c_rf_swim hl p1 (cut M 0 95)).lift (subC b)) lk_L_33 (fun H hP _ _ => recv_r C (r := 0) (by show 0 < 112; decide) rfl rfl hP) rfl rfl (Nat.le_of_ble_eq_true rfl) ⟨by decide, by decide⟩ ⟨by decide, by decide⟩ dL_swim_4 (fun a ha h0 => ?_) (fun a ha h0 => ?_)
  · unfold hlp2
    rw [if_pos h0]
    refine x_i2l C dL_swim_7 ?_
    refine x_last C (r := 111) (len := 1) (j := 0) (by show 111 < 112; decide) rfl (by decide) (by decide) dL_swim_8 ?_
    refine x_goto C dL_swim_9 (tgt := 18) (by decide) ?_
    refine x_iconst C dL_swim_18 (v := 0) (by decide) ?_
    exact x_hret C dL_swim_19
  · unfold hlp2
    rw [if_neg h0]
    by_cases h1 : a.1 = 3
    · rw [if_pos h1, show exN a.1 = "java/lang/IndexOutOfBoundsException" by rw [h1]; rfl]
      refine x_catch (E := "java/lang/IndexOutOfBoundsException") C [] ⟨0, 9, 12, 24⟩ [⟨0, 9, 15, 31⟩] ht (fun y hy => absurd hy List.not_mem_nil) (by decide) (by decide) (tb5 79 _ rfl) (by decide) (fun q => ?_)
      refine x_astoren C dL_swim_12 (ltb rfl) rfl ?_
      refine x_iconst C dL_swim_13 (v := 1) (by decide) ?_
      exact x_hret C dL_swim_14
    · rw [if_neg h1]
      by_cases h2 : a.1 = 5
      · rw [if_pos h2, show exN a.1 = "java/lang/IllegalStateException" by rw [h2]; rfl]
        refine x_catch (E := "java/lang/IllegalStateException") C [⟨0, 9, 12, 24⟩] ⟨0, 9, 15, 31⟩ [] ht (fun y hy => by rw [List.mem_singleton.mp hy]; exact Or.inr ⟨by decide, "java/lang/IndexOutOfBoundsException", tb5 79 _ rfl, by decide⟩) (by decide) (by decide) (tb5 126 _ rfl) (by decide) (fun q => ?_)
        refine x_astoren C dL_swim_15 (ltb rfl) rfl ?_
        refine x_iconst C dL_swim_16 (v := 2) (by decide) ?_
        exact x_hret C dL_swim_17
      · rw [if_neg h2]
        exact x_hnone
theorem c_lw_rest {l : Launch} {g : GG} {b : Nat} (hl : l.stackTraces = false) (p1 : Int32) (M : Mem) : CH l g (wL b) (rmx 7) yL_rest cL_rest 4 [(0, 9, 12, 13)] [.ref (b + 0), .int p1, .ref (b + 111)] M ((lft M (rf_rest p1 (cut M 0 95))).bind (hlp1 1)) := by
  refine CH.of (by decide +kernel) (Nat.le_of_ble_eq_true rfl) (catc rfl (catc rfl (catc rfl cat0))) (fun z C ht => ?_)
  refine x_aloadn C dL_rest_0 rfl ?_
  refine x_iconst C dL_rest_1 (v := 0) (by decide) ?_
  refine x_aloadn C dL_rest_2 rfl ?_
  refine x_iloadn C dL_rest_3 rfl ?_
  refine x_callX (st := [.int 0, .ref (b + 111)]) C ((c_rf_rest hl p1 (cut M 0 95)).lift (subC b)) lk_L_37 (fun H hP _ _ => recv_r C (r := 0) (by show 0 < 112; decide) rfl rfl hP) rfl rfl (Nat.le_of_ble_eq_true rfl) ⟨by decide, by decide⟩ ⟨by decide, by decide⟩ dL_rest_4 (fun a ha h0 => ?_) (fun a ha h0 => ?_)
  · unfold hlp1
    rw [if_pos h0]
    refine x_i2l C dL_rest_7 ?_
    refine x_last C (r := 111) (len := 1) (j := 0) (by show 111 < 112; decide) rfl (by decide) (by decide) dL_rest_8 ?_
    refine x_goto C dL_rest_9 (tgt := 15) (by decide) ?_
    refine x_iconst C dL_rest_15 (v := 0) (by decide) ?_
    exact x_hret C dL_rest_16
  · unfold hlp1
    rw [if_neg h0]
    by_cases h1 : a.1 = 1
    · rw [if_pos h1, show exN a.1 = "java/lang/IllegalArgumentException" by rw [h1]; rfl]
      refine x_catch (E := "java/lang/IllegalArgumentException") C [] ⟨0, 9, 12, 13⟩ [] ht (fun y hy => absurd hy List.not_mem_nil) (by decide) (by decide) (tb3 189 _ rfl) (by decide) (fun q => ?_)
      refine x_astoren C dL_rest_12 (ltb rfl) rfl ?_
      refine x_iconst C dL_rest_13 (v := 1) (by decide) ?_
      exact x_hret C dL_rest_14
    · rw [if_neg h1]
      exact x_hnone
theorem c_lw_owed {l : Launch} {g : GG} {b : Nat} (hl : l.stackTraces = false) (p1 : Int32) (p2 : Int32) (M : Mem) : CH l g (wL b) (rmx 7) yL_owed cL_owed 5 [(0, 10, 13, 24)] [.ref (b + 0), .int p1, .int p2, .ref (b + 111)] M ((lft M (rf_owed p1 p2 (cut M 0 95))).bind (hlp1 3)) := by
  refine CH.of (by decide +kernel) (Nat.le_of_ble_eq_true rfl) (catc rfl (catc rfl (catc rfl (catc rfl cat0)))) (fun z C ht => ?_)
  refine x_aloadn C dL_owed_0 rfl ?_
  refine x_iconst C dL_owed_1 (v := 0) (by decide) ?_
  refine x_aloadn C dL_owed_2 rfl ?_
  refine x_iloadn C dL_owed_3 rfl ?_
  refine x_iloadn C dL_owed_4 rfl ?_
  refine x_callX (st := [.int 0, .ref (b + 111)]) C ((c_rf_owed hl p1 p2 (cut M 0 95)).lift (subC b)) lk_L_40 (fun H hP _ _ => recv_r C (r := 0) (by show 0 < 112; decide) rfl rfl hP) rfl rfl (Nat.le_of_ble_eq_true rfl) ⟨by decide, by decide⟩ ⟨by decide, by decide⟩ dL_owed_5 (fun a ha h0 => ?_) (fun a ha h0 => ?_)
  · unfold hlp1
    rw [if_pos h0]
    refine x_i2l C dL_owed_8 ?_
    refine x_last C (r := 111) (len := 1) (j := 0) (by show 111 < 112; decide) rfl (by decide) (by decide) dL_owed_9 ?_
    refine x_goto C dL_owed_10 (tgt := 17) (by decide) ?_
    refine x_iconst C dL_owed_17 (v := 0) (by decide) ?_
    exact x_hret C dL_owed_18
  · unfold hlp1
    rw [if_neg h0]
    by_cases h1 : a.1 = 3
    · rw [if_pos h1, show exN a.1 = "java/lang/IndexOutOfBoundsException" by rw [h1]; rfl]
      refine x_catch (E := "java/lang/IndexOutOfBoundsException") C [] ⟨0, 10, 13, 24⟩ [] ht (fun y hy => absurd hy List.not_mem_nil) (by decide) (by decide) (tb5 79 _ rfl) (by decide) (fun q => ?_)
      refine x_astore C dL_owed_13 (ltb rfl) rfl ?_
      refine x_iconst C dL_owed_15 (v := 1) (by decide) ?_
      exact x_hret C dL_owed_16
    · rw [if_neg h1]
      exact x_hnone
theorem c_lw_clear {l : Launch} {g : GG} {b : Nat} (hl : l.stackTraces = false) (p1 : Int32) (M : Mem) : CH l g (wL b) (rmx 7) yL_clear cL_clear 4 [(0, 9, 12, 13)] [.ref (b + 0), .int p1, .ref (b + 111)] M ((lft M (rf_clear p1 (cut M 0 95))).bind (hlp1 1)) := by
  refine CH.of (by decide +kernel) (Nat.le_of_ble_eq_true rfl) (catc rfl (catc rfl (catc rfl cat0))) (fun z C ht => ?_)
  refine x_aloadn C dL_clear_0 rfl ?_
  refine x_iconst C dL_clear_1 (v := 0) (by decide) ?_
  refine x_aloadn C dL_clear_2 rfl ?_
  refine x_iloadn C dL_clear_3 rfl ?_
  refine x_callX (st := [.int 0, .ref (b + 111)]) C ((c_rf_clear hl p1 (cut M 0 95)).lift (subC b)) lk_L_43 (fun H hP _ _ => recv_r C (r := 0) (by show 0 < 112; decide) rfl rfl hP) rfl rfl (Nat.le_of_ble_eq_true rfl) ⟨by decide, by decide⟩ ⟨by decide, by decide⟩ dL_clear_4 (fun a ha h0 => ?_) (fun a ha h0 => ?_)
  · unfold hlp1
    rw [if_pos h0]
    refine x_i2l C dL_clear_7 ?_
    refine x_last C (r := 111) (len := 1) (j := 0) (by show 111 < 112; decide) rfl (by decide) (by decide) dL_clear_8 ?_
    refine x_goto C dL_clear_9 (tgt := 15) (by decide) ?_
    refine x_iconst C dL_clear_15 (v := 0) (by decide) ?_
    exact x_hret C dL_clear_16
  · unfold hlp1
    rw [if_neg h0]
    by_cases h1 : a.1 = 1
    · rw [if_pos h1, show exN a.1 = "java/lang/IllegalArgumentException" by rw [h1]; rfl]
      refine x_catch (E := "java/lang/IllegalArgumentException") C [] ⟨0, 9, 12, 13⟩ [] ht (fun y hy => absurd hy List.not_mem_nil) (by decide) (by decide) (tb3 189 _ rfl) (by decide) (fun q => ?_)
      refine x_astoren C dL_clear_12 (ltb rfl) rfl ?_
      refine x_iconst C dL_clear_13 (v := 1) (by decide) ?_
      exact x_hret C dL_clear_14
    · rw [if_neg h1]
      exact x_hnone
theorem c_lw_plan {l : Launch} {g : GG} {b : Nat} (hl : l.stackTraces = false) (p1 : Int32) (p2 : Int32) (p3 : Int32) (M : Mem) : CH l g (wL b) (rmx 9) yL_plan cL_plan 6 [(0, 12, 15, 26)] [.ref (b + 0), .int p1, .int p2, .int p3, .ref (b + 111)] M ((lft M (rf_plan p1 p2 p3 (cut M 0 95))).bind (hlp1 4)) := by
  refine CH.of (by decide +kernel) (Nat.le_of_ble_eq_true rfl) (catc rfl (catc rfl (catc rfl (catc rfl (catc rfl cat0))))) (fun z C ht => ?_)
  refine x_aload C dL_plan_0 rfl ?_
  refine x_iconst C dL_plan_2 (v := 0) (by decide) ?_
  refine x_aloadn C dL_plan_3 rfl ?_
  refine x_iloadn C dL_plan_4 rfl ?_
  refine x_iloadn C dL_plan_5 rfl ?_
  refine x_iloadn C dL_plan_6 rfl ?_
  refine x_callX (st := [.int 0, .ref (b + 111)]) C ((c_rf_plan hl p1 p2 p3 (cut M 0 95)).lift (subC b)) lk_L_46 (fun H hP _ _ => recv_r C (r := 0) (by show 0 < 112; decide) rfl rfl hP) rfl rfl (Nat.le_of_ble_eq_true rfl) ⟨by decide, by decide⟩ ⟨by decide, by decide⟩ dL_plan_7 (fun a ha h0 => ?_) (fun a ha h0 => ?_)
  · unfold hlp1
    rw [if_pos h0]
    refine x_i2l C dL_plan_10 ?_
    refine x_last C (r := 111) (len := 1) (j := 0) (by show 111 < 112; decide) rfl (by decide) (by decide) dL_plan_11 ?_
    refine x_goto C dL_plan_12 (tgt := 19) (by decide) ?_
    refine x_iconst C dL_plan_19 (v := 0) (by decide) ?_
    exact x_hret C dL_plan_20
  · unfold hlp1
    rw [if_neg h0]
    by_cases h1 : a.1 = 4
    · rw [if_pos h1, show exN a.1 = "java/util/NoSuchElementException" by rw [h1]; rfl]
      refine x_catch (E := "java/util/NoSuchElementException") C [] ⟨0, 12, 15, 26⟩ [] ht (fun y hy => absurd hy List.not_mem_nil) (by decide) (by decide) (tb5 80 _ rfl) (by decide) (fun q => ?_)
      refine x_astore C dL_plan_15 (ltb rfl) rfl ?_
      refine x_iconst C dL_plan_17 (v := 1) (by decide) ?_
      exact x_hret C dL_plan_18
    · rw [if_neg h1]
      exact x_hnone
theorem c_lw_lost {l : Launch} {g : GG} {b : Nat} (hl : l.stackTraces = false) (p1 : Int32) (M : Mem) : CH l g (wL b) (rmx 69) yL_lost cL_lost 4 [(0, 9, 12, 13)] [.ref (b + 0), .int p1, .ref (b + 111)] M ((lft M (rf_lost p1 (cut M 0 95))).bind (hlp1 1)) := by
  refine CH.of (by decide +kernel) (Nat.le_of_ble_eq_true rfl) (catc rfl (catc rfl (catc rfl cat0))) (fun z C ht => ?_)
  refine x_aloadn C dL_lost_0 rfl ?_
  refine x_iconst C dL_lost_1 (v := 0) (by decide) ?_
  refine x_aloadn C dL_lost_2 rfl ?_
  refine x_iloadn C dL_lost_3 rfl ?_
  refine x_callX (st := [.int 0, .ref (b + 111)]) C ((c_rf_lost hl p1 (cut M 0 95)).lift (subC b)) lk_L_50 (fun H hP _ _ => recv_r C (r := 0) (by show 0 < 112; decide) rfl rfl hP) rfl rfl (Nat.le_of_ble_eq_true rfl) ⟨by decide, by decide⟩ ⟨by decide, by decide⟩ dL_lost_4 (fun a ha h0 => ?_) (fun a ha h0 => ?_)
  · unfold hlp1
    rw [if_pos h0]
    refine x_i2l C dL_lost_7 ?_
    refine x_last C (r := 111) (len := 1) (j := 0) (by show 111 < 112; decide) rfl (by decide) (by decide) dL_lost_8 ?_
    refine x_goto C dL_lost_9 (tgt := 15) (by decide) ?_
    refine x_iconst C dL_lost_15 (v := 0) (by decide) ?_
    exact x_hret C dL_lost_16
  · unfold hlp1
    rw [if_neg h0]
    by_cases h1 : a.1 = 1
    · rw [if_pos h1, show exN a.1 = "java/lang/IllegalArgumentException" by rw [h1]; rfl]
      refine x_catch (E := "java/lang/IllegalArgumentException") C [] ⟨0, 9, 12, 13⟩ [] ht (fun y hy => absurd hy List.not_mem_nil) (by decide) (by decide) (tb3 189 _ rfl) (by decide) (fun q => ?_)
      refine x_astoren C dL_lost_12 (ltb rfl) rfl ?_
      refine x_iconst C dL_lost_13 (v := 1) (by decide) ?_
      exact x_hret C dL_lost_14
    · rw [if_neg h1]
      exact x_hnone
theorem c_lw_fair {l : Launch} {g : GG} {b : Nat} (hl : l.stackTraces = false) (p1 : Int32) (p2 : Int32) (p3 : Int32) (p4 : Int32) (p5 : Int32) (M : Mem) : CH l g (wL b) (rmx 9) yL_fair cL_fair 8 [(0, 16, 19, 13), (0, 16, 23, 26)] [.ref (b + 0), .int p1, .int p2, .int p3, .int p4, .int p5, .ref (b + 111)] M ((lft M (rf_fair p1 p2 p3 p4 p5 (cut M 0 95))).bind (hlp2 1 4)) := by
  refine CH.of (by decide +kernel) (Nat.le_of_ble_eq_true rfl) (catc rfl (catc rfl (catc rfl (catc rfl (catc rfl (catc rfl (catc rfl cat0))))))) (fun z C ht => ?_)
  refine x_aload C dL_fair_0 rfl ?_
  refine x_iconst C dL_fair_2 (v := 0) (by decide) ?_
  refine x_aloadn C dL_fair_3 rfl ?_
  refine x_iloadn C dL_fair_4 rfl ?_
  refine x_iloadn C dL_fair_5 rfl ?_
  refine x_iloadn C dL_fair_6 rfl ?_
  refine x_iload C dL_fair_7 rfl ?_
  refine x_iload C dL_fair_9 rfl ?_
  refine x_callX (st := [.int 0, .ref (b + 111)]) C ((c_rf_fair hl p1 p2 p3 p4 p5 (cut M 0 95)).lift (subC b)) lk_L_53 (fun H hP _ _ => recv_r C (r := 0) (by show 0 < 112; decide) rfl rfl hP) rfl rfl (Nat.le_of_ble_eq_true rfl) ⟨by decide, by decide⟩ ⟨by decide, by decide⟩ dL_fair_11 (fun a ha h0 => ?_) (fun a ha h0 => ?_)
  · unfold hlp2
    rw [if_pos h0]
    refine x_i2l C dL_fair_14 ?_
    refine x_last C (r := 111) (len := 1) (j := 0) (by show 111 < 112; decide) rfl (by decide) (by decide) dL_fair_15 ?_
    refine x_goto C dL_fair_16 (tgt := 27) (by decide) ?_
    refine x_iconst C dL_fair_27 (v := 0) (by decide) ?_
    exact x_hret C dL_fair_28
  · unfold hlp2
    rw [if_neg h0]
    by_cases h1 : a.1 = 1
    · rw [if_pos h1, show exN a.1 = "java/lang/IllegalArgumentException" by rw [h1]; rfl]
      refine x_catch (E := "java/lang/IllegalArgumentException") C [] ⟨0, 16, 19, 13⟩ [⟨0, 16, 23, 26⟩] ht (fun y hy => absurd hy List.not_mem_nil) (by decide) (by decide) (tb3 189 _ rfl) (by decide) (fun q => ?_)
      refine x_astore C dL_fair_19 (ltb rfl) rfl ?_
      refine x_iconst C dL_fair_21 (v := 1) (by decide) ?_
      exact x_hret C dL_fair_22
    · rw [if_neg h1]
      by_cases h2 : a.1 = 4
      · rw [if_pos h2, show exN a.1 = "java/util/NoSuchElementException" by rw [h2]; rfl]
        refine x_catch (E := "java/util/NoSuchElementException") C [⟨0, 16, 19, 13⟩] ⟨0, 16, 23, 26⟩ [] ht (fun y hy => by rw [List.mem_singleton.mp hy]; exact Or.inr ⟨by decide, "java/lang/IllegalArgumentException", tb3 189 _ rfl, by decide⟩) (by decide) (by decide) (tb5 80 _ rfl) (by decide) (fun q => ?_)
        refine x_astore C dL_fair_23 (ltb rfl) rfl ?_
        refine x_iconst C dL_fair_25 (v := 2) (by decide) ?_
        exact x_hret C dL_fair_26
      · rw [if_neg h2]
        exact x_hnone
