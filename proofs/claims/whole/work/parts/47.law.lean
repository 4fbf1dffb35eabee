/-! the law, over an invariant of the two memories -/
def res (X : Mem) (n : Nat) : Mem := fun r i => if r < n then X r i else 0
theorem cut_pst {M X : Mem} {o n : Nat} : cut (pst M o n X) o n = res X n := funext fun r => funext fun i => by
  unfold cut pst res
  by_cases h : r < n
  · rw [if_pos h, if_pos h, if_pos (by omega), show o + r - o = r by omega]
  · rw [if_neg h, if_neg h]
theorem cut_pstC {M X : Mem} : cut (pst M 0 95 X) 95 16 = cut M 95 16 := funext fun r => funext fun i => by
  unfold cut pst
  rw [if_neg (show ¬ (0 ≤ 95 + r ∧ 95 + r < 0 + 95) by omega)]
theorem cut_pstM {M Y : Mem} : cut (pst M 95 16 Y) 0 95 = cut M 0 95 := funext fun r => funext fun i => by
  unfold cut pst
  by_cases h : r < 95
  · rw [if_pos h, if_pos h, if_neg (show ¬ (95 ≤ 0 + r ∧ 0 + r < 95 + 16) by omega)]
  · rw [if_neg h, if_neg h]
theorem cut_wrC {M : Mem} {v : Int32} : cut (wr M 111 0 v) 0 95 = cut M 0 95 := funext fun r => funext fun i => by
  unfold cut wr
  by_cases h : r < 95
  · rw [if_pos h, if_pos h, if_neg (show ¬ (0 + r = 111 ∧ i = 0) by omega)]
  · rw [if_neg h, if_neg h]
theorem cut_wrM {M : Mem} {v : Int32} : cut (wr M 111 0 v) 95 16 = cut M 95 16 := funext fun r => funext fun i => by
  unfold cut wr
  by_cases h : r < 16
  · rw [if_pos h, if_pos h, if_neg (show ¬ (95 + r = 111 ∧ i = 0) by omega)]
  · rw [if_neg h, if_neg h]
theorem pst_cut {M : Mem} {o n : Nat} : pst M o n (cut M o n) = M := funext fun r => funext fun i => by
  unfold pst cut
  by_cases h : o ≤ r ∧ r < o + n
  · rw [if_pos h, if_pos (by omega), show o + (r - o) = r by omega]
  · rw [if_neg h]
/-- both answer, the same, and go on -/
def StM (Inv : Mem → Mem → Prop) (A B : Option (Int32 × Mem)) : Prop := ∃ v X' Y', A = some (v, X') ∧ B = some (v, Y') ∧ Inv X' Y'
def StI (Inv : Mem → Mem → Prop) (X : Mem) (A : Option Int32) (B : Option (Int32 × Mem)) : Prop := ∃ v Y', A = some v ∧ B = some (v, Y') ∧ Inv X Y'
def StV (Inv : Mem → Mem → Prop) (A B : Option Mem) : Prop := ∃ X' Y', A = some X' ∧ B = some Y' ∧ Inv X' Y'
/-- .. or throw, by the same clause -/
def St1 (Inv : Mem → Mem → Prop) (e1 : Nat) (A : Option XR) (B : Option (Int32 × Mem)) : Prop := ∃ e v X' u Y' c, A = some (e, v, X') ∧ B = some (u, Y') ∧ md_thrown Y' = some c ∧ ((e = 0 ∧ c = 0 ∧ v = u) ∨ (¬ e = 0 ∧ e = e1 ∧ c = 1)) ∧ Inv X' Y'
def St2 (Inv : Mem → Mem → Prop) (e1 e2 : Nat) (A : Option XR) (B : Option (Int32 × Mem)) : Prop := ∃ e v X' u Y' c, A = some (e, v, X') ∧ B = some (u, Y') ∧ md_thrown Y' = some c ∧ ((e = 0 ∧ c = 0 ∧ v = u) ∨ (¬ e = 0 ∧ e = e1 ∧ c = 1) ∨ (¬ e = 0 ∧ ¬ e = e1 ∧ e = e2 ∧ c = 2)) ∧ Inv X' Y'
def HU (Inv : Mem → Mem → Prop) (M : Mem) (O : Option (Int32 × Mem)) (B : Option (Int32 × Mem)) : Prop := ∃ c M1 u Y' X', O = some (c, M1) ∧ B = some (u, Y') ∧ cut M1 95 16 = cut M 95 16 ∧ md_thrown Y' = some c ∧ (c = 0 → M1 111 0 = u) ∧ cut M1 0 95 = res X' 95 ∧ Inv X' Y'
theorem st1_use {Inv : Mem → Mem → Prop} {e1 : Nat} {M : Mem} {A : Option XR} {B : Option (Int32 × Mem)} (h : St1 Inv e1 A B) : HU Inv M ((lft M A).bind (hlp1 e1)) B := by
  obtain ⟨e, v, X', u, Y', c, rfl, rfl, h3, h4, h5⟩ := h
  rcases h4 with ⟨rfl, rfl, rfl⟩ | ⟨h0, rfl, rfl⟩
  · exact ⟨0, wr (pst M 0 95 X') 111 0 v, v, Y', X', rfl, rfl, cut_wrM.trans cut_pstC, h3, fun _ => rfl, cut_wrC.trans cut_pst, h5⟩
  · refine ⟨1, pst M 0 95 X', u, Y', X', ?_, rfl, cut_pstC, h3, fun h => absurd h (by decide), cut_pst, h5⟩
    show hlp1 e (e, v, pst M 0 95 X') = _
    unfold hlp1
    rw [if_neg h0, if_pos rfl]
theorem st2_use {Inv : Mem → Mem → Prop} {e1 e2 : Nat} {M : Mem} {A : Option XR} {B : Option (Int32 × Mem)} (h : St2 Inv e1 e2 A B) : HU Inv M ((lft M A).bind (hlp2 e1 e2)) B := by
  obtain ⟨e, v, X', u, Y', c, rfl, rfl, h3, h4, h5⟩ := h
  rcases h4 with ⟨rfl, rfl, rfl⟩ | ⟨h0, rfl, rfl⟩ | ⟨h0, h1, rfl, rfl⟩
  · exact ⟨0, wr (pst M 0 95 X') 111 0 v, v, Y', X', rfl, rfl, cut_wrM.trans cut_pstC, h3, fun _ => rfl, cut_wrC.trans cut_pst, h5⟩
  · refine ⟨1, pst M 0 95 X', u, Y', X', ?_, rfl, cut_pstC, h3, fun h => absurd h (by decide), cut_pst, h5⟩
    show hlp2 e e2 (e, v, pst M 0 95 X') = _
    unfold hlp2
    rw [if_neg h0, if_pos rfl]
  · refine ⟨2, pst M 0 95 X', u, Y', X', ?_, rfl, cut_pstC, h3, fun h => absurd h (by decide), cut_pst, h5⟩
    show hlp2 e1 e (e, v, pst M 0 95 X') = _
    unfold hlp2
    rw [if_neg h0, if_neg h1, if_pos rfl]
/-- what the law asks of the two, call by call -/
def Sp_feed (Pre Inv : Mem → Mem → Prop) : Prop := ∀ X Y : Mem, Pre X Y → ∀ p1 : Int32, ∀ p2 : Int32, ∀ p3 : Int32, ∀ p4 : Int32, ∀ p5 : Int32, StM Inv (rf_feed p1 p2 p3 p4 p5 X) (md_feed p1 p2 p3 p4 p5 Y)
def Sp_end (Pre Inv : Mem → Mem → Prop) : Prop := ∀ X Y : Mem, Pre X Y → ∀ p1 : Int32, StM Inv (rf_end p1 X) (md_end p1 Y)
def Sp_river (Pre Inv : Mem → Mem → Prop) : Prop := ∀ X Y : Mem, Pre X Y → St2 Inv 1 2 (rf_river  X) (md_river  Y)
def Sp_rule (Pre Inv : Mem → Mem → Prop) : Prop := ∀ X Y : Mem, Pre X Y → St1 Inv 1 (rf_rule  X) (md_rule  Y)
def Sp_fault (Pre Inv : Mem → Mem → Prop) : Prop := ∀ X Y : Mem, Pre X Y → StI Inv X (rf_fault  X) (md_fault  Y)
def Sp_look (Pre Inv : Mem → Mem → Prop) : Prop := ∀ X Y : Mem, Pre X Y → ∀ p1 : Int32, ∀ p2 : Int32, St2 Inv 3 4 (rf_look p1 p2 X) (md_look p1 p2 Y)
def Sp_need (Pre Inv : Mem → Mem → Prop) : Prop := ∀ X Y : Mem, Pre X Y → ∀ p1 : Int32, StM Inv (rf_need p1 X) (md_need p1 Y)
def Sp_cross (Pre Inv : Mem → Mem → Prop) : Prop := ∀ X Y : Mem, Pre X Y → ∀ p1 : Int32, ∀ p2 : Int32, St1 Inv 5 (rf_cross p1 p2 X) (md_cross p1 p2 Y)
def Sp_swim (Pre Inv : Mem → Mem → Prop) : Prop := ∀ X Y : Mem, Pre X Y → ∀ p1 : Int32, St2 Inv 3 5 (rf_swim p1 X) (md_swim p1 Y)
def Sp_rest (Pre Inv : Mem → Mem → Prop) : Prop := ∀ X Y : Mem, Pre X Y → ∀ p1 : Int32, St1 Inv 1 (rf_rest p1 X) (md_rest p1 Y)
def Sp_may (Pre Inv : Mem → Mem → Prop) : Prop := ∀ X Y : Mem, Pre X Y → ∀ p1 : Int32, StI Inv X (rf_may p1 X) (md_may p1 Y)
def Sp_owed (Pre Inv : Mem → Mem → Prop) : Prop := ∀ X Y : Mem, Pre X Y → ∀ p1 : Int32, ∀ p2 : Int32, St1 Inv 3 (rf_owed p1 p2 X) (md_owed p1 p2 Y)
def Sp_clear (Pre Inv : Mem → Mem → Prop) : Prop := ∀ X Y : Mem, Pre X Y → ∀ p1 : Int32, St1 Inv 1 (rf_clear p1 X) (md_clear p1 Y)
def Sp_plan (Pre Inv : Mem → Mem → Prop) : Prop := ∀ X Y : Mem, Pre X Y → ∀ p1 : Int32, ∀ p2 : Int32, isB p2 = true → ∀ p3 : Int32, St1 Inv 4 (rf_plan p1 p2 p3 X) (md_plan p1 p2 p3 Y)
def Sp_row (Pre Inv : Mem → Mem → Prop) : Prop := ∀ X Y : Mem, Pre X Y → ∀ p1 : Int32, ∀ p2 : Int32, isB p2 = true → ∀ p3 : Int32, StM Inv (rf_row p1 p2 p3 X) (md_row p1 p2 p3 Y)
def Sp_left (Pre Inv : Mem → Mem → Prop) : Prop := ∀ X Y : Mem, Pre X Y → StM Inv (rf_left  X) (md_left  Y)
def Sp_lost (Pre Inv : Mem → Mem → Prop) : Prop := ∀ X Y : Mem, Pre X Y → ∀ p1 : Int32, St1 Inv 1 (rf_lost p1 X) (md_lost p1 Y)
def Sp_fair (Pre Inv : Mem → Mem → Prop) : Prop := ∀ X Y : Mem, Pre X Y → ∀ p1 : Int32, ∀ p2 : Int32, ∀ p3 : Int32, ∀ p4 : Int32, ∀ p5 : Int32, St2 Inv 1 4 (rf_fair p1 p2 p3 p4 p5 X) (md_fair p1 p2 p3 p4 p5 Y)
def Sp_image (Pre Inv : Mem → Mem → Prop) : Prop := ∀ X Y : Mem, Pre X Y → StV Inv (rf_image  X) (md_image  Y)
def Sp_back (Pre Inv : Mem → Mem → Prop) : Prop := ∀ X Y : Mem, Pre X Y → StM Inv (rf_back  X) (md_back  Y)
def Sp_count (Pre Inv : Mem → Mem → Prop) : Prop := ∀ X Y : Mem, Pre X Y → ∀ p1 : Int32, StI Inv X (rf_count p1 X) (md_count p1 Y)
theorem res_cut {M : Mem} {o n : Nat} : res (cut M o n) n = cut M o n := funext fun r => funext fun i => by
  unfold res cut
  by_cases h : r < n
  · rw [if_pos h]
  · rw [if_neg h, if_neg h]
theorem y_mem {z : ZT} {g : GG} {b nL k n pc : Nat} {Q : State → Prop} {L : List (Option Value)} {st : List Value} {M M' : Mem} (h : M' = M) (kk : YG z g b nL Q k n pc L st M') : YG z g b nL Q k n pc L st M := h ▸ kk
theorem y_bool {z : ZT} {l : Launch} {g : GG} {b : Nat} {R : Room} {cc : ByteArray} {nL : Nat} {own : String} {ret : Option FieldType} {Q : State → Prop} {k n pc : Nat} {L : List (Option Value)} {st : List Value} {M : Mem} (C : CxK z l g b 0 R cc nL own ret) {x : Int32} {off off2 : Int} {t1 : Nat} (d : decode cc pc = .ok (.ifCond .eq off, 3)) (d1 : decode cc (pc + 3) = .ok (.iconst 1, 1)) (d2 : decode cc (pc + 4) = .ok (.goto off2, 3)) (d3 : decode cc t1 = .ok (.iconst 0, 1)) (ht : (pc : Int) + off = (t1 : Int)) (ht2 : ((pc + 4 : Nat) : Int) + off2 = (t1 + 1 : Nat)) (kk : YG z g b nL Q k n (t1 + 1) L (.int (if x = 0 then 0 else 1) :: st) M) : YG z g b nL Q k n pc L (.int x :: st) M := by
  by_cases h : x = 0
  · rw [if_pos h] at kk
    exact y_ifeqT C d ht h (y_iconst C d3 (by decide) kk)
  · rw [if_neg h] at kk
    exact y_ifeqF C d ht h (y_iconst C d1 (by decide) (y_goto C d2 ht2 kk))
theorem lkh_river : LkH RL 70 yL_river cL_river 3 [(0, 8, 11, 13), (0, 8, 14, 15)] 2 := ⟨tb3 188 _ rfl, tb1 0 _ rfl, tb3 186 _ rfl, tb3 187 _ rfl, ⟨by decide, by decide⟩, rfl⟩
theorem lkh_rule : LkH RL 79 yL_rule cL_rule 3 [(0, 8, 11, 13)] 2 := ⟨tb4 238 _ rfl, tb1 0 _ rfl, tb4 236 _ rfl, tb4 237 _ rfl, ⟨by decide, by decide⟩, rfl⟩
theorem lkh_look : LkH RL 86 yL_look cL_look 5 [(0, 10, 13, 24), (0, 10, 17, 26)] 4 := ⟨tb5 78 _ rfl, tb1 0 _ rfl, tb5 76 _ rfl, tb5 77 _ rfl, ⟨by decide, by decide⟩, rfl⟩
theorem lkh_cross : LkH RL 94 yL_cross cL_cross 5 [(0, 10, 13, 31)] 4 := ⟨tb5 125 _ rfl, tb1 0 _ rfl, tb5 123 _ rfl, tb5 124 _ rfl, ⟨by decide, by decide⟩, rfl⟩
theorem lkh_swim : LkH RL 97 yL_swim cL_swim 4 [(0, 9, 12, 24), (0, 9, 15, 31)] 3 := ⟨tb5 166 _ rfl, tb1 0 _ rfl, tb5 164 _ rfl, tb5 165 _ rfl, ⟨by decide, by decide⟩, rfl⟩
theorem lkh_rest : LkH RL 101 yL_rest cL_rest 4 [(0, 9, 12, 13)] 3 := ⟨tb5 179 _ rfl, tb1 0 _ rfl, tb5 177 _ rfl, tb5 178 _ rfl, ⟨by decide, by decide⟩, rfl⟩
theorem lkh_owed : LkH RL 108 yL_owed cL_owed 5 [(0, 10, 13, 24)] 4 := ⟨tb5 187 _ rfl, tb1 0 _ rfl, tb5 185 _ rfl, tb5 186 _ rfl, ⟨by decide, by decide⟩, rfl⟩
theorem lkh_clear : LkH RL 111 yL_clear cL_clear 4 [(0, 9, 12, 13)] 3 := ⟨tb5 194 _ rfl, tb1 0 _ rfl, tb5 192 _ rfl, tb5 193 _ rfl, ⟨by decide, by decide⟩, rfl⟩
theorem lkh_plan : LkH RL 114 yL_plan cL_plan 6 [(0, 12, 15, 26)] 5 := ⟨tb5 218 _ rfl, tb1 0 _ rfl, tb5 216 _ rfl, tb5 217 _ rfl, ⟨by decide, by decide⟩, rfl⟩
theorem lkh_lost : LkH RL 126 yL_lost cL_lost 4 [(0, 9, 12, 13)] 3 := ⟨tb5 233 _ rfl, tb1 0 _ rfl, tb5 231 _ rfl, tb5 232 _ rfl, ⟨by decide, by decide⟩, rfl⟩
theorem lkh_fair : LkH RL 129 yL_fair cL_fair 8 [(0, 16, 19, 13), (0, 16, 23, 26)] 7 := ⟨tb6 27 _ rfl, tb1 0 _ rfl, tb6 25 _ rfl, tb6 26 _ rfl, ⟨by decide, by decide⟩, rfl⟩
set_option maxHeartbeats 4000000 in
set_option maxRecDepth 20000 in
theorem w_arm_feed {z : ZT} {l : Launch} {g : GG} {b a Ln : Nat} {Q : State → Prop} {xs : Nat → Int32} {Pre Inv : Mem → Mem → Prop} (C : CxK z l g b 0 room_1 cL_law 7 RL (some .boolean)) (hl : l.stackTraces = false) (hX : va_X a Ln xs (zs z) (zs z).heap) (ha : a < (zs z).heap.size) (hLn : Ln ≤ 3072) (hr : ∀ X Y, Inv X Y → Inv (res X 95) (res Y 16)) (hs : Sp_feed Pre Inv) {j k n : Nat} (hj : j + 6 ≤ Ln) (hk : k ≤ 5000) (hn : n ≤ 100000) {M : Mem} {o5 o6 : Option Value} (hI : Pre (cut M 0 95) (cut M 95 16)) (kk : ∀ k1 n1 M1 p5 p6, k1 ≤ k + 1 → n1 ≤ n + 6 → Inv (cut M1 0 95) (cut M1 95 16) → YG z g b 7 Q k1 n1 1144 [some (.ref a), some (.ref (b + 0)), some (.ref (b + 95)), some (.ref (b + 111)), some (.int (Int32.ofNat j)), p5, p6] [] M1) : YG z g b 7 Q k n 140 [some (.ref a), some (.ref (b + 0)), some (.ref (b + 95)), some (.ref (b + 111)), some (.int (Int32.ofNat j)), o5, o6] [] M := by
  obtain ⟨v, X1, Y1, h1, h2, h7⟩ := hs (cut M 0 95) (cut M 95 16) hI (xs (j + 1)) (xs (j + 2)) (xs (j + 3)) (xs (j + 4)) (xs (j + 5))
  refine y_aloadn C dL_law_140 rfl ?_
  refine y_aloadn C dL_law_141 rfl ?_
  refine y_iload C dL_law_142 rfl ?_
  refine y_iconst C dL_law_144 (v := Int32.ofNat 1) (by decide) ?_
  refine y_iadd C dL_law_145 ?_
  refine y_sld C hX ha (j := j + 1) (by omega) hLn (ofN_add j 1) dL_law_146 ?_
  refine y_aloadn C dL_law_147 rfl ?_
  refine y_iload C dL_law_148 rfl ?_
  refine y_iconst C dL_law_150 (v := Int32.ofNat 2) (by decide) ?_
  refine y_iadd C dL_law_151 ?_
  refine y_sld C hX ha (j := j + 2) (by omega) hLn (ofN_add j 2) dL_law_152 ?_
  refine y_aloadn C dL_law_153 rfl ?_
  refine y_iload C dL_law_154 rfl ?_
  refine y_iconst C dL_law_156 (v := Int32.ofNat 3) (by decide) ?_
  refine y_iadd C dL_law_157 ?_
  refine y_sld C hX ha (j := j + 3) (by omega) hLn (ofN_add j 3) dL_law_158 ?_
  refine y_aloadn C dL_law_159 rfl ?_
  refine y_iload C dL_law_160 rfl ?_
  refine y_iconst C dL_law_162 (v := Int32.ofNat 4) (by decide) ?_
  refine y_iadd C dL_law_163 ?_
  refine y_sld C hX ha (j := j + 4) (by omega) hLn (ofN_add j 4) dL_law_164 ?_
  refine y_aloadn C dL_law_165 rfl ?_
  refine y_iload C dL_law_166 rfl ?_
  refine y_iconst C dL_law_168 (v := Int32.ofNat 5) (by decide) ?_
  refine y_iadd C dL_law_169 ?_
  refine y_sld C hX ha (j := j + 5) (by omega) hLn (ofN_add j 5) dL_law_170 ?_
  refine y_callV (w1 := wC b) (st := []) (o := 0) (r := 0) C _ (subC b) (c_rf_feed (xs (j + 1)) (xs (j + 2)) (xs (j + 3)) (xs (j + 4)) (xs (j + 5)) (cut M 0 95)) h1 lk_L_61 (by decide) rfl ⟨_, _, rfl⟩ rfl rfl (Nat.le_of_ble_eq_true rfl) ⟨by decide, by decide⟩ ⟨by show _ ≤ 601024; omega, by show _ ≤ 7293034; omega⟩ dL_law_171 ?_
  refine y_aloadn C dL_law_174 rfl ?_
  refine y_aloadn C dL_law_175 rfl ?_
  refine y_iload C dL_law_176 rfl ?_
  refine y_iconst C dL_law_178 (v := Int32.ofNat 1) (by decide) ?_
  refine y_iadd C dL_law_179 ?_
  refine y_sld C hX ha (j := j + 1) (by omega) hLn (ofN_add j 1) dL_law_180 ?_
  refine y_aloadn C dL_law_181 rfl ?_
  refine y_iload C dL_law_182 rfl ?_
  refine y_iconst C dL_law_184 (v := Int32.ofNat 2) (by decide) ?_
  refine y_iadd C dL_law_185 ?_
  refine y_sld C hX ha (j := j + 2) (by omega) hLn (ofN_add j 2) dL_law_186 ?_
  refine y_aloadn C dL_law_187 rfl ?_
  refine y_iload C dL_law_188 rfl ?_
  refine y_iconst C dL_law_190 (v := Int32.ofNat 3) (by decide) ?_
  refine y_iadd C dL_law_191 ?_
  refine y_sld C hX ha (j := j + 3) (by omega) hLn (ofN_add j 3) dL_law_192 ?_
  refine y_aloadn C dL_law_193 rfl ?_
  refine y_iload C dL_law_194 rfl ?_
  refine y_iconst C dL_law_196 (v := Int32.ofNat 4) (by decide) ?_
  refine y_iadd C dL_law_197 ?_
  refine y_sld C hX ha (j := j + 4) (by omega) hLn (ofN_add j 4) dL_law_198 ?_
  refine y_aloadn C dL_law_199 rfl ?_
  refine y_iload C dL_law_200 rfl ?_
  refine y_iconst C dL_law_202 (v := Int32.ofNat 5) (by decide) ?_
  refine y_iadd C dL_law_203 ?_
  refine y_sld C hX ha (j := j + 5) (by omega) hLn (ofN_add j 5) dL_law_204 ?_
  refine y_callV (w1 := wM (b + 95)) (st := [.int v]) (o := 95) (r := 95) C _ (subM b) (c_md_feed (b := b + 95) (xs (j + 1)) (xs (j + 2)) (xs (j + 3)) (xs (j + 4)) (xs (j + 5)) _) (show md_feed (xs (j + 1)) (xs (j + 2)) (xs (j + 3)) (xs (j + 4)) (xs (j + 5)) (cut (pst M 0 95 X1) 95 16) = _ by rw [show cut (pst M 0 95 X1) 95 16 = cut M 95 16 from cut_pstC]; exact h2) lk_L_64 (by decide) rfl ⟨_, _, rfl⟩ rfl rfl (Nat.le_of_ble_eq_true rfl) ⟨by decide, by decide⟩ ⟨by show _ ≤ 601024; omega, by show _ ≤ 7293034; omega⟩ dL_law_205 ?_
  refine y_icmpeqT C dL_law_208 (tgt := 1144) (by decide) rfl ?_
  exact kk k n (pst (pst M 0 95 X1) 95 16 Y1) o5 o6 (by omega) (by omega) (by rw [cut_pstM, cut_pst, cut_pst]; exact hr _ _ h7)
set_option maxHeartbeats 4000000 in
set_option maxRecDepth 20000 in
theorem w_arm_end {z : ZT} {l : Launch} {g : GG} {b a Ln : Nat} {Q : State → Prop} {xs : Nat → Int32} {Pre Inv : Mem → Mem → Prop} (C : CxK z l g b 0 room_1 cL_law 7 RL (some .boolean)) (hl : l.stackTraces = false) (hX : va_X a Ln xs (zs z) (zs z).heap) (ha : a < (zs z).heap.size) (hLn : Ln ≤ 3072) (hr : ∀ X Y, Inv X Y → Inv (res X 95) (res Y 16)) (hs : Sp_end Pre Inv) {j k n : Nat} (hj : j + 6 ≤ Ln) (hk : k ≤ 5000) (hn : n ≤ 100000) {M : Mem} {o5 o6 : Option Value} (hI : Pre (cut M 0 95) (cut M 95 16)) (kk : ∀ k1 n1 M1 p5 p6, k1 ≤ k + 1 → n1 ≤ n + 6 → Inv (cut M1 0 95) (cut M1 95 16) → YG z g b 7 Q k1 n1 1144 [some (.ref a), some (.ref (b + 0)), some (.ref (b + 95)), some (.ref (b + 111)), some (.int (Int32.ofNat j)), p5, p6] [] M1) : YG z g b 7 Q k n 213 [some (.ref a), some (.ref (b + 0)), some (.ref (b + 95)), some (.ref (b + 111)), some (.int (Int32.ofNat j)), o5, o6] [] M := by
  obtain ⟨v, X1, Y1, h1, h2, h7⟩ := hs (cut M 0 95) (cut M 95 16) hI (xs (j + 1))
  refine y_aloadn C dL_law_213 rfl ?_
  refine y_aloadn C dL_law_214 rfl ?_
  refine y_iload C dL_law_215 rfl ?_
  refine y_iconst C dL_law_217 (v := Int32.ofNat 1) (by decide) ?_
  refine y_iadd C dL_law_218 ?_
  refine y_sld C hX ha (j := j + 1) (by omega) hLn (ofN_add j 1) dL_law_219 ?_
  refine y_callV (w1 := wC b) (st := []) (o := 0) (r := 0) C _ (subC b) (c_rf_end (xs (j + 1)) (cut M 0 95)) h1 lk_L_65 (by decide) rfl ⟨_, _, rfl⟩ rfl rfl (Nat.le_of_ble_eq_true rfl) ⟨by decide, by decide⟩ ⟨by show _ ≤ 601024; omega, by show _ ≤ 7293034; omega⟩ dL_law_220 ?_
  refine y_aloadn C dL_law_223 rfl ?_
  refine y_aloadn C dL_law_224 rfl ?_
  refine y_iload C dL_law_225 rfl ?_
  refine y_iconst C dL_law_227 (v := Int32.ofNat 1) (by decide) ?_
  refine y_iadd C dL_law_228 ?_
  refine y_sld C hX ha (j := j + 1) (by omega) hLn (ofN_add j 1) dL_law_229 ?_
  refine y_callV (w1 := wM (b + 95)) (st := [.int v]) (o := 95) (r := 95) C _ (subM b) (c_md_end (b := b + 95) (xs (j + 1)) _) (show md_end (xs (j + 1)) (cut (pst M 0 95 X1) 95 16) = _ by rw [show cut (pst M 0 95 X1) 95 16 = cut M 95 16 from cut_pstC]; exact h2) lk_L_69 (by decide) rfl ⟨_, _, rfl⟩ rfl rfl (Nat.le_of_ble_eq_true rfl) ⟨by decide, by decide⟩ ⟨by show _ ≤ 601024; omega, by show _ ≤ 7293034; omega⟩ dL_law_230 ?_
  refine y_icmpeqT C dL_law_233 (tgt := 1144) (by decide) rfl ?_
  exact kk k n (pst (pst M 0 95 X1) 95 16 Y1) o5 o6 (by omega) (by omega) (by rw [cut_pstM, cut_pst, cut_pst]; exact hr _ _ h7)
set_option maxHeartbeats 4000000 in
set_option maxRecDepth 20000 in
theorem w_arm_river {z : ZT} {l : Launch} {g : GG} {b a Ln : Nat} {Q : State → Prop} {xs : Nat → Int32} {Pre Inv : Mem → Mem → Prop} (C : CxK z l g b 0 room_1 cL_law 7 RL (some .boolean)) (hl : l.stackTraces = false) (hX : va_X a Ln xs (zs z) (zs z).heap) (ha : a < (zs z).heap.size) (hLn : Ln ≤ 3072) (hr : ∀ X Y, Inv X Y → Inv (res X 95) (res Y 16)) (hs : Sp_river Pre Inv) {j k n : Nat} (hj : j + 6 ≤ Ln) (hk : k ≤ 5000) (hn : n ≤ 100000) {M : Mem} {o5 o6 : Option Value} (hI : Pre (cut M 0 95) (cut M 95 16)) (kk : ∀ k1 n1 M1 p5 p6, k1 ≤ k + 1 → n1 ≤ n + 6 → Inv (cut M1 0 95) (cut M1 95 16) → YG z g b 7 Q k1 n1 1144 [some (.ref a), some (.ref (b + 0)), some (.ref (b + 95)), some (.ref (b + 111)), some (.int (Int32.ofNat j)), p5, p6] [] M1) : YG z g b 7 Q k n 238 [some (.ref a), some (.ref (b + 0)), some (.ref (b + 95)), some (.ref (b + 111)), some (.int (Int32.ofNat j)), o5, o6] [] M := by
  obtain ⟨c9, M1, u, Y1, X1, h1, h2, h3, h4, h5, h6, h7⟩ := st2_use (M := M) (hs (cut M 0 95) (cut M 95 16) hI )
  have fin := kk (k + 1) (n + 6) (pst M1 95 16 Y1) (some (.int c9)) (some (.int u)) (by omega) (by omega) (by rw [cut_pstM, h6, cut_pst]; exact hr _ _ h7)
  have hM111 : (pst M1 95 16 Y1) 111 0 = M1 111 0 := rfl
  refine y_aloadn C dL_law_238 rfl ?_
  refine y_aloadn C dL_law_239 rfl ?_
  refine y_callH (st := []) C _ (c_lw_river hl M) h1 lkh_river rfl rfl (Nat.le_of_ble_eq_true rfl) ⟨by decide, by decide⟩ ⟨by show k + 1 ≤ 601024; omega, by show n + 6 ≤ 7293034; omega⟩ dL_law_240 ?_
  refine y_istore C dL_law_243 (ltb rfl) rfl ?_
  refine y_aloadn C dL_law_245 rfl ?_
  refine y_callV (w1 := wM (b + 95)) (st := []) (o := 95) (r := 95) C _ (subM b) (c_md_river (b := b + 95) _) (show md_river (cut (M1) 95 16) = _ by rw [show cut (M1) 95 16 = cut M 95 16 from h3]; exact h2) lk_L_75 (by decide) rfl ⟨_, _, rfl⟩ rfl rfl (Nat.le_of_ble_eq_true rfl) ⟨by decide, by decide⟩ ⟨by show _ ≤ 601024; omega, by show _ ≤ 7293034; omega⟩ dL_law_246 ?_
  refine y_istore C dL_law_249 (ltb rfl) rfl ?_
  refine y_aloadn C dL_law_251 rfl ?_
  refine y_callV (w1 := wM (b + 95)) (st := []) (o := 95) (r := 95) C _ (subM b) (c_md_thrown (b := b + 95) _) (show md_thrown (cut (pst M1 95 16 Y1) 95 16) = some c9 by rw [cut_pst]; exact h4) lk_L_76 (by decide) rfl ⟨_, _, rfl⟩ rfl rfl (Nat.le_of_ble_eq_true rfl) ⟨by decide, by decide⟩ ⟨by show _ ≤ 601024; omega, by show _ ≤ 7293034; omega⟩ dL_law_252 ?_
  refine y_mem (M' := pst M1 95 16 Y1) pst_cut.symm ?_
  refine y_iload C dL_law_255 rfl ?_
  refine y_icmpeqT C dL_law_257 (tgt := 262) (by decide) rfl ?_
  refine y_iload C dL_law_262 rfl ?_
  by_cases h0 : c9 = 0
  case neg => exact y_ifneT C dL_law_264 (tgt := 279) (by decide) h0 (y_goto C dL_law_279 (tgt := 1144) (by decide) fin)
  refine y_ifneF C dL_law_264 (tgt := 279) (by decide) h0 ?_
  refine y_aloadn C dL_law_267 rfl ?_
  refine y_iconst C dL_law_268 (v := Int32.ofNat 0) (by decide) ?_
  refine y_lald C (r := 111) (len := 1) (j := 0) (by decide) rfl (by decide) (by decide) dL_law_269 ?_
  refine y_iload C dL_law_270 rfl ?_
  refine y_i2l C dL_law_272 ?_
  refine y_lcmpE C dL_law_273 (by first | rw [hM111, h5 h0] | rfl) ?_
  refine y_ifeqT C dL_law_274 (tgt := 279) (by decide) rfl ?_
  refine y_goto C dL_law_279 (tgt := 1144) (by decide) ?_
  exact fin
set_option maxHeartbeats 4000000 in
set_option maxRecDepth 20000 in
theorem w_arm_rule {z : ZT} {l : Launch} {g : GG} {b a Ln : Nat} {Q : State → Prop} {xs : Nat → Int32} {Pre Inv : Mem → Mem → Prop} (C : CxK z l g b 0 room_1 cL_law 7 RL (some .boolean)) (hl : l.stackTraces = false) (hX : va_X a Ln xs (zs z) (zs z).heap) (ha : a < (zs z).heap.size) (hLn : Ln ≤ 3072) (hr : ∀ X Y, Inv X Y → Inv (res X 95) (res Y 16)) (hs : Sp_rule Pre Inv) {j k n : Nat} (hj : j + 6 ≤ Ln) (hk : k ≤ 5000) (hn : n ≤ 100000) {M : Mem} {o5 o6 : Option Value} (hI : Pre (cut M 0 95) (cut M 95 16)) (kk : ∀ k1 n1 M1 p5 p6, k1 ≤ k + 1 → n1 ≤ n + 6 → Inv (cut M1 0 95) (cut M1 95 16) → YG z g b 7 Q k1 n1 1144 [some (.ref a), some (.ref (b + 0)), some (.ref (b + 95)), some (.ref (b + 111)), some (.int (Int32.ofNat j)), p5, p6] [] M1) : YG z g b 7 Q k n 282 [some (.ref a), some (.ref (b + 0)), some (.ref (b + 95)), some (.ref (b + 111)), some (.int (Int32.ofNat j)), o5, o6] [] M := by
  obtain ⟨c9, M1, u, Y1, X1, h1, h2, h3, h4, h5, h6, h7⟩ := st1_use (M := M) (hs (cut M 0 95) (cut M 95 16) hI )
  have fin := kk (k + 1) (n + 6) (pst M1 95 16 Y1) (some (.int c9)) (some (.int u)) (by omega) (by omega) (by rw [cut_pstM, h6, cut_pst]; exact hr _ _ h7)
  have hM111 : (pst M1 95 16 Y1) 111 0 = M1 111 0 := rfl
  refine y_aloadn C dL_law_282 rfl ?_
  refine y_aloadn C dL_law_283 rfl ?_
  refine y_callH (st := []) C _ (c_lw_rule hl M) h1 lkh_rule rfl rfl (Nat.le_of_ble_eq_true rfl) ⟨by decide, by decide⟩ ⟨by show k + 1 ≤ 601024; omega, by show n + 6 ≤ 7293034; omega⟩ dL_law_284 ?_
  refine y_istore C dL_law_287 (ltb rfl) rfl ?_
  refine y_aloadn C dL_law_289 rfl ?_
  refine y_callV (w1 := wM (b + 95)) (st := []) (o := 95) (r := 95) C _ (subM b) (c_md_rule (b := b + 95) _) (show md_rule (cut (M1) 95 16) = _ by rw [show cut (M1) 95 16 = cut M 95 16 from h3]; exact h2) lk_L_81 (by decide) rfl ⟨_, _, rfl⟩ rfl rfl (Nat.le_of_ble_eq_true rfl) ⟨by decide, by decide⟩ ⟨by show _ ≤ 601024; omega, by show _ ≤ 7293034; omega⟩ dL_law_290 ?_
  refine y_istore C dL_law_293 (ltb rfl) rfl ?_
  refine y_aloadn C dL_law_295 rfl ?_
  refine y_callV (w1 := wM (b + 95)) (st := []) (o := 95) (r := 95) C _ (subM b) (c_md_thrown (b := b + 95) _) (show md_thrown (cut (pst M1 95 16 Y1) 95 16) = some c9 by rw [cut_pst]; exact h4) lk_L_76 (by decide) rfl ⟨_, _, rfl⟩ rfl rfl (Nat.le_of_ble_eq_true rfl) ⟨by decide, by decide⟩ ⟨by show _ ≤ 601024; omega, by show _ ≤ 7293034; omega⟩ dL_law_296 ?_
  refine y_mem (M' := pst M1 95 16 Y1) pst_cut.symm ?_
  refine y_iload C dL_law_299 rfl ?_
  refine y_icmpeqT C dL_law_301 (tgt := 306) (by decide) rfl ?_
  refine y_iload C dL_law_306 rfl ?_
  by_cases h0 : c9 = 0
  case neg => exact y_ifneT C dL_law_308 (tgt := 323) (by decide) h0 (y_goto C dL_law_323 (tgt := 1144) (by decide) fin)
  refine y_ifneF C dL_law_308 (tgt := 323) (by decide) h0 ?_
  refine y_aloadn C dL_law_311 rfl ?_
  refine y_iconst C dL_law_312 (v := Int32.ofNat 0) (by decide) ?_
  refine y_lald C (r := 111) (len := 1) (j := 0) (by decide) rfl (by decide) (by decide) dL_law_313 ?_
  refine y_iload C dL_law_314 rfl ?_
  refine y_i2l C dL_law_316 ?_
  refine y_lcmpE C dL_law_317 (by first | rw [hM111, h5 h0] | rfl) ?_
  refine y_ifeqT C dL_law_318 (tgt := 323) (by decide) rfl ?_
  refine y_goto C dL_law_323 (tgt := 1144) (by decide) ?_
  exact fin
set_option maxHeartbeats 4000000 in
set_option maxRecDepth 20000 in
theorem w_arm_fault {z : ZT} {l : Launch} {g : GG} {b a Ln : Nat} {Q : State → Prop} {xs : Nat → Int32} {Pre Inv : Mem → Mem → Prop} (C : CxK z l g b 0 room_1 cL_law 7 RL (some .boolean)) (hl : l.stackTraces = false) (hX : va_X a Ln xs (zs z) (zs z).heap) (ha : a < (zs z).heap.size) (hLn : Ln ≤ 3072) (hr : ∀ X Y, Inv X Y → Inv (res X 95) (res Y 16)) (hs : Sp_fault Pre Inv) {j k n : Nat} (hj : j + 6 ≤ Ln) (hk : k ≤ 5000) (hn : n ≤ 100000) {M : Mem} {o5 o6 : Option Value} (hI : Pre (cut M 0 95) (cut M 95 16)) (kk : ∀ k1 n1 M1 p5 p6, k1 ≤ k + 1 → n1 ≤ n + 6 → Inv (cut M1 0 95) (cut M1 95 16) → YG z g b 7 Q k1 n1 1144 [some (.ref a), some (.ref (b + 0)), some (.ref (b + 95)), some (.ref (b + 111)), some (.int (Int32.ofNat j)), p5, p6] [] M1) : YG z g b 7 Q k n 326 [some (.ref a), some (.ref (b + 0)), some (.ref (b + 95)), some (.ref (b + 111)), some (.int (Int32.ofNat j)), o5, o6] [] M := by
  obtain ⟨v, Y1, h1, h2, h7⟩ := hs (cut M 0 95) (cut M 95 16) hI 
  refine y_aloadn C dL_law_326 rfl ?_
  refine y_callV (w1 := wC b) (st := []) (o := 0) (r := 0) C _ (subC b) (c_rf_fault (cut M 0 95)) h1 lk_L_82 (by decide) rfl ⟨_, _, rfl⟩ rfl rfl (Nat.le_of_ble_eq_true rfl) ⟨by decide, by decide⟩ ⟨by show _ ≤ 601024; omega, by show _ ≤ 7293034; omega⟩ dL_law_327 ?_
  refine y_mem (M' := M) pst_cut.symm ?_
  refine y_aloadn C dL_law_330 rfl ?_
  refine y_callV (w1 := wM (b + 95)) (st := [.int v]) (o := 95) (r := 95) C _ (subM b) (c_md_fault (b := b + 95) _) (show md_fault (cut (M) 95 16) = _ by rw [show cut (M) 95 16 = cut M 95 16 from rfl]; exact h2) lk_L_85 (by decide) rfl ⟨_, _, rfl⟩ rfl rfl (Nat.le_of_ble_eq_true rfl) ⟨by decide, by decide⟩ ⟨by show _ ≤ 601024; omega, by show _ ≤ 7293034; omega⟩ dL_law_331 ?_
  refine y_icmpeqT C dL_law_334 (tgt := 1144) (by decide) rfl ?_
  exact kk k n (pst M 95 16 Y1) o5 o6 (by omega) (by omega) (by rw [cut_pstM, cut_pst]; have h9 := hr _ _ h7; rw [show res (cut M 0 95) 95 = cut M 0 95 from res_cut] at h9; exact h9)
set_option maxHeartbeats 4000000 in
set_option maxRecDepth 20000 in
theorem w_arm_look {z : ZT} {l : Launch} {g : GG} {b a Ln : Nat} {Q : State → Prop} {xs : Nat → Int32} {Pre Inv : Mem → Mem → Prop} (C : CxK z l g b 0 room_1 cL_law 7 RL (some .boolean)) (hl : l.stackTraces = false) (hX : va_X a Ln xs (zs z) (zs z).heap) (ha : a < (zs z).heap.size) (hLn : Ln ≤ 3072) (hr : ∀ X Y, Inv X Y → Inv (res X 95) (res Y 16)) (hs : Sp_look Pre Inv) {j k n : Nat} (hj : j + 6 ≤ Ln) (hk : k ≤ 5000) (hn : n ≤ 100000) {M : Mem} {o5 o6 : Option Value} (hI : Pre (cut M 0 95) (cut M 95 16)) (kk : ∀ k1 n1 M1 p5 p6, k1 ≤ k + 1 → n1 ≤ n + 6 → Inv (cut M1 0 95) (cut M1 95 16) → YG z g b 7 Q k1 n1 1144 [some (.ref a), some (.ref (b + 0)), some (.ref (b + 95)), some (.ref (b + 111)), some (.int (Int32.ofNat j)), p5, p6] [] M1) : YG z g b 7 Q k n 339 [some (.ref a), some (.ref (b + 0)), some (.ref (b + 95)), some (.ref (b + 111)), some (.int (Int32.ofNat j)), o5, o6] [] M := by
  obtain ⟨c9, M1, u, Y1, X1, h1, h2, h3, h4, h5, h6, h7⟩ := st2_use (M := M) (hs (cut M 0 95) (cut M 95 16) hI (xs (j + 1)) (xs (j + 2)))
  have fin := kk (k + 1) (n + 6) (pst M1 95 16 Y1) (some (.int c9)) (some (.int u)) (by omega) (by omega) (by rw [cut_pstM, h6, cut_pst]; exact hr _ _ h7)
  have hM111 : (pst M1 95 16 Y1) 111 0 = M1 111 0 := rfl
  refine y_aloadn C dL_law_339 rfl ?_
  refine y_aloadn C dL_law_340 rfl ?_
  refine y_iload C dL_law_341 rfl ?_
  refine y_iconst C dL_law_343 (v := Int32.ofNat 1) (by decide) ?_
  refine y_iadd C dL_law_344 ?_
  refine y_sld C hX ha (j := j + 1) (by omega) hLn (ofN_add j 1) dL_law_345 ?_
  refine y_aloadn C dL_law_346 rfl ?_
  refine y_iload C dL_law_347 rfl ?_
  refine y_iconst C dL_law_349 (v := Int32.ofNat 2) (by decide) ?_
  refine y_iadd C dL_law_350 ?_
  refine y_sld C hX ha (j := j + 2) (by omega) hLn (ofN_add j 2) dL_law_351 ?_
  refine y_aloadn C dL_law_352 rfl ?_
  refine y_callH (st := []) C _ (c_lw_look hl (xs (j + 1)) (xs (j + 2)) M) h1 lkh_look rfl rfl (Nat.le_of_ble_eq_true rfl) ⟨by decide, by decide⟩ ⟨by show k + 1 ≤ 601024; omega, by show n + 6 ≤ 7293034; omega⟩ dL_law_353 ?_
  refine y_istore C dL_law_356 (ltb rfl) rfl ?_
  refine y_aloadn C dL_law_358 rfl ?_
  refine y_aloadn C dL_law_359 rfl ?_
  refine y_iload C dL_law_360 rfl ?_
  refine y_iconst C dL_law_362 (v := Int32.ofNat 1) (by decide) ?_
  refine y_iadd C dL_law_363 ?_
  refine y_sld C hX ha (j := j + 1) (by omega) hLn (ofN_add j 1) dL_law_364 ?_
  refine y_aloadn C dL_law_365 rfl ?_
  refine y_iload C dL_law_366 rfl ?_
  refine y_iconst C dL_law_368 (v := Int32.ofNat 2) (by decide) ?_
  refine y_iadd C dL_law_369 ?_
  refine y_sld C hX ha (j := j + 2) (by omega) hLn (ofN_add j 2) dL_law_370 ?_
  refine y_callV (w1 := wM (b + 95)) (st := []) (o := 95) (r := 95) C _ (subM b) (c_md_look (b := b + 95) (xs (j + 1)) (xs (j + 2)) _) (show md_look (xs (j + 1)) (xs (j + 2)) (cut (M1) 95 16) = _ by rw [show cut (M1) 95 16 = cut M 95 16 from h3]; exact h2) lk_L_89 (by decide) rfl ⟨_, _, rfl⟩ rfl rfl (Nat.le_of_ble_eq_true rfl) ⟨by decide, by decide⟩ ⟨by show _ ≤ 601024; omega, by show _ ≤ 7293034; omega⟩ dL_law_371 ?_
  refine y_istore C dL_law_374 (ltb rfl) rfl ?_
  refine y_aloadn C dL_law_376 rfl ?_
  refine y_callV (w1 := wM (b + 95)) (st := []) (o := 95) (r := 95) C _ (subM b) (c_md_thrown (b := b + 95) _) (show md_thrown (cut (pst M1 95 16 Y1) 95 16) = some c9 by rw [cut_pst]; exact h4) lk_L_76 (by decide) rfl ⟨_, _, rfl⟩ rfl rfl (Nat.le_of_ble_eq_true rfl) ⟨by decide, by decide⟩ ⟨by show _ ≤ 601024; omega, by show _ ≤ 7293034; omega⟩ dL_law_377 ?_
  refine y_mem (M' := pst M1 95 16 Y1) pst_cut.symm ?_
  refine y_iload C dL_law_380 rfl ?_
  refine y_icmpeqT C dL_law_382 (tgt := 387) (by decide) rfl ?_
  refine y_iload C dL_law_387 rfl ?_
  by_cases h0 : c9 = 0
  case neg => exact y_ifneT C dL_law_389 (tgt := 404) (by decide) h0 (y_goto C dL_law_404 (tgt := 1144) (by decide) fin)
  refine y_ifneF C dL_law_389 (tgt := 404) (by decide) h0 ?_
  refine y_aloadn C dL_law_392 rfl ?_
  refine y_iconst C dL_law_393 (v := Int32.ofNat 0) (by decide) ?_
  refine y_lald C (r := 111) (len := 1) (j := 0) (by decide) rfl (by decide) (by decide) dL_law_394 ?_
  refine y_iload C dL_law_395 rfl ?_
  refine y_i2l C dL_law_397 ?_
  refine y_lcmpE C dL_law_398 (by first | rw [hM111, h5 h0] | rfl) ?_
  refine y_ifeqT C dL_law_399 (tgt := 404) (by decide) rfl ?_
  refine y_goto C dL_law_404 (tgt := 1144) (by decide) ?_
  exact fin
set_option maxHeartbeats 4000000 in
set_option maxRecDepth 20000 in
theorem w_arm_need {z : ZT} {l : Launch} {g : GG} {b a Ln : Nat} {Q : State → Prop} {xs : Nat → Int32} {Pre Inv : Mem → Mem → Prop} (C : CxK z l g b 0 room_1 cL_law 7 RL (some .boolean)) (hl : l.stackTraces = false) (hX : va_X a Ln xs (zs z) (zs z).heap) (ha : a < (zs z).heap.size) (hLn : Ln ≤ 3072) (hr : ∀ X Y, Inv X Y → Inv (res X 95) (res Y 16)) (hs : Sp_need Pre Inv) {j k n : Nat} (hj : j + 6 ≤ Ln) (hk : k ≤ 5000) (hn : n ≤ 100000) {M : Mem} {o5 o6 : Option Value} (hI : Pre (cut M 0 95) (cut M 95 16)) (kk : ∀ k1 n1 M1 p5 p6, k1 ≤ k + 1 → n1 ≤ n + 6 → Inv (cut M1 0 95) (cut M1 95 16) → YG z g b 7 Q k1 n1 1144 [some (.ref a), some (.ref (b + 0)), some (.ref (b + 95)), some (.ref (b + 111)), some (.int (Int32.ofNat j)), p5, p6] [] M1) : YG z g b 7 Q k n 407 [some (.ref a), some (.ref (b + 0)), some (.ref (b + 95)), some (.ref (b + 111)), some (.int (Int32.ofNat j)), o5, o6] [] M := by
  obtain ⟨v, X1, Y1, h1, h2, h7⟩ := hs (cut M 0 95) (cut M 95 16) hI (xs (j + 1))
  refine y_aloadn C dL_law_407 rfl ?_
  refine y_aloadn C dL_law_408 rfl ?_
  refine y_iload C dL_law_409 rfl ?_
  refine y_iconst C dL_law_411 (v := Int32.ofNat 1) (by decide) ?_
  refine y_iadd C dL_law_412 ?_
  refine y_sld C hX ha (j := j + 1) (by omega) hLn (ofN_add j 1) dL_law_413 ?_
  refine y_callV (w1 := wC b) (st := []) (o := 0) (r := 0) C _ (subC b) (c_rf_need (xs (j + 1)) (cut M 0 95)) h1 lk_L_90 (by decide) rfl ⟨_, _, rfl⟩ rfl rfl (Nat.le_of_ble_eq_true rfl) ⟨by decide, by decide⟩ ⟨by show _ ≤ 601024; omega, by show _ ≤ 7293034; omega⟩ dL_law_414 ?_
  refine y_aloadn C dL_law_417 rfl ?_
  refine y_aloadn C dL_law_418 rfl ?_
  refine y_iload C dL_law_419 rfl ?_
  refine y_iconst C dL_law_421 (v := Int32.ofNat 1) (by decide) ?_
  refine y_iadd C dL_law_422 ?_
  refine y_sld C hX ha (j := j + 1) (by omega) hLn (ofN_add j 1) dL_law_423 ?_
  refine y_callV (w1 := wM (b + 95)) (st := [.int v]) (o := 95) (r := 95) C _ (subM b) (c_md_need (b := b + 95) (xs (j + 1)) _) (show md_need (xs (j + 1)) (cut (pst M 0 95 X1) 95 16) = _ by rw [show cut (pst M 0 95 X1) 95 16 = cut M 95 16 from cut_pstC]; exact h2) lk_L_93 (by decide) rfl ⟨_, _, rfl⟩ rfl rfl (Nat.le_of_ble_eq_true rfl) ⟨by decide, by decide⟩ ⟨by show _ ≤ 601024; omega, by show _ ≤ 7293034; omega⟩ dL_law_424 ?_
  refine y_icmpeqT C dL_law_427 (tgt := 1144) (by decide) rfl ?_
  exact kk k n (pst (pst M 0 95 X1) 95 16 Y1) o5 o6 (by omega) (by omega) (by rw [cut_pstM, cut_pst, cut_pst]; exact hr _ _ h7)
set_option maxHeartbeats 4000000 in
set_option maxRecDepth 20000 in
theorem w_arm_cross {z : ZT} {l : Launch} {g : GG} {b a Ln : Nat} {Q : State → Prop} {xs : Nat → Int32} {Pre Inv : Mem → Mem → Prop} (C : CxK z l g b 0 room_1 cL_law 7 RL (some .boolean)) (hl : l.stackTraces = false) (hX : va_X a Ln xs (zs z) (zs z).heap) (ha : a < (zs z).heap.size) (hLn : Ln ≤ 3072) (hr : ∀ X Y, Inv X Y → Inv (res X 95) (res Y 16)) (hs : Sp_cross Pre Inv) {j k n : Nat} (hj : j + 6 ≤ Ln) (hk : k ≤ 5000) (hn : n ≤ 100000) {M : Mem} {o5 o6 : Option Value} (hI : Pre (cut M 0 95) (cut M 95 16)) (kk : ∀ k1 n1 M1 p5 p6, k1 ≤ k + 1 → n1 ≤ n + 6 → Inv (cut M1 0 95) (cut M1 95 16) → YG z g b 7 Q k1 n1 1144 [some (.ref a), some (.ref (b + 0)), some (.ref (b + 95)), some (.ref (b + 111)), some (.int (Int32.ofNat j)), p5, p6] [] M1) : YG z g b 7 Q k n 432 [some (.ref a), some (.ref (b + 0)), some (.ref (b + 95)), some (.ref (b + 111)), some (.int (Int32.ofNat j)), o5, o6] [] M := by
  obtain ⟨c9, M1, u, Y1, X1, h1, h2, h3, h4, h5, h6, h7⟩ := st1_use (M := M) (hs (cut M 0 95) (cut M 95 16) hI (xs (j + 1)) (xs (j + 2)))
  have fin := kk (k + 1) (n + 6) (pst M1 95 16 Y1) (some (.int c9)) (some (.int u)) (by omega) (by omega) (by rw [cut_pstM, h6, cut_pst]; exact hr _ _ h7)
  have hM111 : (pst M1 95 16 Y1) 111 0 = M1 111 0 := rfl
  refine y_aloadn C dL_law_432 rfl ?_
  refine y_aloadn C dL_law_433 rfl ?_
  refine y_iload C dL_law_434 rfl ?_
  refine y_iconst C dL_law_436 (v := Int32.ofNat 1) (by decide) ?_
  refine y_iadd C dL_law_437 ?_
  refine y_sld C hX ha (j := j + 1) (by omega) hLn (ofN_add j 1) dL_law_438 ?_
  refine y_aloadn C dL_law_439 rfl ?_
  refine y_iload C dL_law_440 rfl ?_
  refine y_iconst C dL_law_442 (v := Int32.ofNat 2) (by decide) ?_
  refine y_iadd C dL_law_443 ?_
  refine y_sld C hX ha (j := j + 2) (by omega) hLn (ofN_add j 2) dL_law_444 ?_
  refine y_aloadn C dL_law_445 rfl ?_
  refine y_callH (st := []) C _ (c_lw_cross hl (xs (j + 1)) (xs (j + 2)) M) h1 lkh_cross rfl rfl (Nat.le_of_ble_eq_true rfl) ⟨by decide, by decide⟩ ⟨by show k + 1 ≤ 601024; omega, by show n + 6 ≤ 7293034; omega⟩ dL_law_446 ?_
  refine y_istore C dL_law_449 (ltb rfl) rfl ?_
  refine y_aloadn C dL_law_451 rfl ?_
  refine y_aloadn C dL_law_452 rfl ?_
  refine y_iload C dL_law_453 rfl ?_
  refine y_iconst C dL_law_455 (v := Int32.ofNat 1) (by decide) ?_
  refine y_iadd C dL_law_456 ?_
  refine y_sld C hX ha (j := j + 1) (by omega) hLn (ofN_add j 1) dL_law_457 ?_
  refine y_aloadn C dL_law_458 rfl ?_
  refine y_iload C dL_law_459 rfl ?_
  refine y_iconst C dL_law_461 (v := Int32.ofNat 2) (by decide) ?_
  refine y_iadd C dL_law_462 ?_
  refine y_sld C hX ha (j := j + 2) (by omega) hLn (ofN_add j 2) dL_law_463 ?_
  refine y_callV (w1 := wM (b + 95)) (st := []) (o := 95) (r := 95) C _ (subM b) (c_md_cross (b := b + 95) (xs (j + 1)) (xs (j + 2)) _) (show md_cross (xs (j + 1)) (xs (j + 2)) (cut (M1) 95 16) = _ by rw [show cut (M1) 95 16 = cut M 95 16 from h3]; exact h2) lk_L_96 (by decide) rfl ⟨_, _, rfl⟩ rfl rfl (Nat.le_of_ble_eq_true rfl) ⟨by decide, by decide⟩ ⟨by show _ ≤ 601024; omega, by show _ ≤ 7293034; omega⟩ dL_law_464 ?_
  refine y_istore C dL_law_467 (ltb rfl) rfl ?_
  refine y_aloadn C dL_law_469 rfl ?_
  refine y_callV (w1 := wM (b + 95)) (st := []) (o := 95) (r := 95) C _ (subM b) (c_md_thrown (b := b + 95) _) (show md_thrown (cut (pst M1 95 16 Y1) 95 16) = some c9 by rw [cut_pst]; exact h4) lk_L_76 (by decide) rfl ⟨_, _, rfl⟩ rfl rfl (Nat.le_of_ble_eq_true rfl) ⟨by decide, by decide⟩ ⟨by show _ ≤ 601024; omega, by show _ ≤ 7293034; omega⟩ dL_law_470 ?_
  refine y_mem (M' := pst M1 95 16 Y1) pst_cut.symm ?_
  refine y_iload C dL_law_473 rfl ?_
  refine y_icmpeqT C dL_law_475 (tgt := 480) (by decide) rfl ?_
  refine y_iload C dL_law_480 rfl ?_
  by_cases h0 : c9 = 0
  case neg => exact y_ifneT C dL_law_482 (tgt := 497) (by decide) h0 (y_goto C dL_law_497 (tgt := 1144) (by decide) fin)
  refine y_ifneF C dL_law_482 (tgt := 497) (by decide) h0 ?_
  refine y_aloadn C dL_law_485 rfl ?_
  refine y_iconst C dL_law_486 (v := Int32.ofNat 0) (by decide) ?_
  refine y_lald C (r := 111) (len := 1) (j := 0) (by decide) rfl (by decide) (by decide) dL_law_487 ?_
  refine y_iload C dL_law_488 rfl ?_
  refine y_i2l C dL_law_490 ?_
  refine y_lcmpE C dL_law_491 (by first | rw [hM111, h5 h0] | rfl) ?_
  refine y_ifeqT C dL_law_492 (tgt := 497) (by decide) rfl ?_
  refine y_goto C dL_law_497 (tgt := 1144) (by decide) ?_
  exact fin
set_option maxHeartbeats 4000000 in
set_option maxRecDepth 20000 in
theorem w_arm_swim {z : ZT} {l : Launch} {g : GG} {b a Ln : Nat} {Q : State → Prop} {xs : Nat → Int32} {Pre Inv : Mem → Mem → Prop} (C : CxK z l g b 0 room_1 cL_law 7 RL (some .boolean)) (hl : l.stackTraces = false) (hX : va_X a Ln xs (zs z) (zs z).heap) (ha : a < (zs z).heap.size) (hLn : Ln ≤ 3072) (hr : ∀ X Y, Inv X Y → Inv (res X 95) (res Y 16)) (hs : Sp_swim Pre Inv) {j k n : Nat} (hj : j + 6 ≤ Ln) (hk : k ≤ 5000) (hn : n ≤ 100000) {M : Mem} {o5 o6 : Option Value} (hI : Pre (cut M 0 95) (cut M 95 16)) (kk : ∀ k1 n1 M1 p5 p6, k1 ≤ k + 1 → n1 ≤ n + 6 → Inv (cut M1 0 95) (cut M1 95 16) → YG z g b 7 Q k1 n1 1144 [some (.ref a), some (.ref (b + 0)), some (.ref (b + 95)), some (.ref (b + 111)), some (.int (Int32.ofNat j)), p5, p6] [] M1) : YG z g b 7 Q k n 500 [some (.ref a), some (.ref (b + 0)), some (.ref (b + 95)), some (.ref (b + 111)), some (.int (Int32.ofNat j)), o5, o6] [] M := by
  obtain ⟨c9, M1, u, Y1, X1, h1, h2, h3, h4, h5, h6, h7⟩ := st2_use (M := M) (hs (cut M 0 95) (cut M 95 16) hI (xs (j + 1)))
  have fin := kk (k + 1) (n + 6) (pst M1 95 16 Y1) (some (.int c9)) (some (.int u)) (by omega) (by omega) (by rw [cut_pstM, h6, cut_pst]; exact hr _ _ h7)
  have hM111 : (pst M1 95 16 Y1) 111 0 = M1 111 0 := rfl
  refine y_aloadn C dL_law_500 rfl ?_
  refine y_aloadn C dL_law_501 rfl ?_
  refine y_iload C dL_law_502 rfl ?_
  refine y_iconst C dL_law_504 (v := Int32.ofNat 1) (by decide) ?_
  refine y_iadd C dL_law_505 ?_
  refine y_sld C hX ha (j := j + 1) (by omega) hLn (ofN_add j 1) dL_law_506 ?_
  refine y_aloadn C dL_law_507 rfl ?_
  refine y_callH (st := []) C _ (c_lw_swim hl (xs (j + 1)) M) h1 lkh_swim rfl rfl (Nat.le_of_ble_eq_true rfl) ⟨by decide, by decide⟩ ⟨by show k + 1 ≤ 601024; omega, by show n + 6 ≤ 7293034; omega⟩ dL_law_508 ?_
  refine y_istore C dL_law_511 (ltb rfl) rfl ?_
  refine y_aloadn C dL_law_513 rfl ?_
  refine y_aloadn C dL_law_514 rfl ?_
  refine y_iload C dL_law_515 rfl ?_
  refine y_iconst C dL_law_517 (v := Int32.ofNat 1) (by decide) ?_
  refine y_iadd C dL_law_518 ?_
  refine y_sld C hX ha (j := j + 1) (by omega) hLn (ofN_add j 1) dL_law_519 ?_
  refine y_callV (w1 := wM (b + 95)) (st := []) (o := 95) (r := 95) C _ (subM b) (c_md_swim (b := b + 95) (xs (j + 1)) _) (show md_swim (xs (j + 1)) (cut (M1) 95 16) = _ by rw [show cut (M1) 95 16 = cut M 95 16 from h3]; exact h2) lk_L_100 (by decide) rfl ⟨_, _, rfl⟩ rfl rfl (Nat.le_of_ble_eq_true rfl) ⟨by decide, by decide⟩ ⟨by show _ ≤ 601024; omega, by show _ ≤ 7293034; omega⟩ dL_law_520 ?_
  refine y_istore C dL_law_523 (ltb rfl) rfl ?_
  refine y_aloadn C dL_law_525 rfl ?_
  refine y_callV (w1 := wM (b + 95)) (st := []) (o := 95) (r := 95) C _ (subM b) (c_md_thrown (b := b + 95) _) (show md_thrown (cut (pst M1 95 16 Y1) 95 16) = some c9 by rw [cut_pst]; exact h4) lk_L_76 (by decide) rfl ⟨_, _, rfl⟩ rfl rfl (Nat.le_of_ble_eq_true rfl) ⟨by decide, by decide⟩ ⟨by show _ ≤ 601024; omega, by show _ ≤ 7293034; omega⟩ dL_law_526 ?_
  refine y_mem (M' := pst M1 95 16 Y1) pst_cut.symm ?_
  refine y_iload C dL_law_529 rfl ?_
  refine y_icmpeqT C dL_law_531 (tgt := 536) (by decide) rfl ?_
  refine y_iload C dL_law_536 rfl ?_
  by_cases h0 : c9 = 0
  case neg => exact y_ifneT C dL_law_538 (tgt := 553) (by decide) h0 (y_goto C dL_law_553 (tgt := 1144) (by decide) fin)
  refine y_ifneF C dL_law_538 (tgt := 553) (by decide) h0 ?_
  refine y_aloadn C dL_law_541 rfl ?_
  refine y_iconst C dL_law_542 (v := Int32.ofNat 0) (by decide) ?_
  refine y_lald C (r := 111) (len := 1) (j := 0) (by decide) rfl (by decide) (by decide) dL_law_543 ?_
  refine y_iload C dL_law_544 rfl ?_
  refine y_i2l C dL_law_546 ?_
  refine y_lcmpE C dL_law_547 (by first | rw [hM111, h5 h0] | rfl) ?_
  refine y_ifeqT C dL_law_548 (tgt := 553) (by decide) rfl ?_
  refine y_goto C dL_law_553 (tgt := 1144) (by decide) ?_
  exact fin
set_option maxHeartbeats 4000000 in
set_option maxRecDepth 20000 in
theorem w_arm_rest {z : ZT} {l : Launch} {g : GG} {b a Ln : Nat} {Q : State → Prop} {xs : Nat → Int32} {Pre Inv : Mem → Mem → Prop} (C : CxK z l g b 0 room_1 cL_law 7 RL (some .boolean)) (hl : l.stackTraces = false) (hX : va_X a Ln xs (zs z) (zs z).heap) (ha : a < (zs z).heap.size) (hLn : Ln ≤ 3072) (hr : ∀ X Y, Inv X Y → Inv (res X 95) (res Y 16)) (hs : Sp_rest Pre Inv) {j k n : Nat} (hj : j + 6 ≤ Ln) (hk : k ≤ 5000) (hn : n ≤ 100000) {M : Mem} {o5 o6 : Option Value} (hI : Pre (cut M 0 95) (cut M 95 16)) (kk : ∀ k1 n1 M1 p5 p6, k1 ≤ k + 1 → n1 ≤ n + 6 → Inv (cut M1 0 95) (cut M1 95 16) → YG z g b 7 Q k1 n1 1144 [some (.ref a), some (.ref (b + 0)), some (.ref (b + 95)), some (.ref (b + 111)), some (.int (Int32.ofNat j)), p5, p6] [] M1) : YG z g b 7 Q k n 556 [some (.ref a), some (.ref (b + 0)), some (.ref (b + 95)), some (.ref (b + 111)), some (.int (Int32.ofNat j)), o5, o6] [] M := by
  obtain ⟨c9, M1, u, Y1, X1, h1, h2, h3, h4, h5, h6, h7⟩ := st1_use (M := M) (hs (cut M 0 95) (cut M 95 16) hI (xs (j + 1)))
  have fin := kk (k + 1) (n + 6) (pst M1 95 16 Y1) (some (.int c9)) (some (.int u)) (by omega) (by omega) (by rw [cut_pstM, h6, cut_pst]; exact hr _ _ h7)
  have hM111 : (pst M1 95 16 Y1) 111 0 = M1 111 0 := rfl
  refine y_aloadn C dL_law_556 rfl ?_
  refine y_aloadn C dL_law_557 rfl ?_
  refine y_iload C dL_law_558 rfl ?_
  refine y_iconst C dL_law_560 (v := Int32.ofNat 1) (by decide) ?_
  refine y_iadd C dL_law_561 ?_
  refine y_sld C hX ha (j := j + 1) (by omega) hLn (ofN_add j 1) dL_law_562 ?_
  refine y_aloadn C dL_law_563 rfl ?_
  refine y_callH (st := []) C _ (c_lw_rest hl (xs (j + 1)) M) h1 lkh_rest rfl rfl (Nat.le_of_ble_eq_true rfl) ⟨by decide, by decide⟩ ⟨by show k + 1 ≤ 601024; omega, by show n + 6 ≤ 7293034; omega⟩ dL_law_564 ?_
  refine y_istore C dL_law_567 (ltb rfl) rfl ?_
  refine y_aloadn C dL_law_569 rfl ?_
  refine y_aloadn C dL_law_570 rfl ?_
  refine y_iload C dL_law_571 rfl ?_
  refine y_iconst C dL_law_573 (v := Int32.ofNat 1) (by decide) ?_
  refine y_iadd C dL_law_574 ?_
  refine y_sld C hX ha (j := j + 1) (by omega) hLn (ofN_add j 1) dL_law_575 ?_
  refine y_callV (w1 := wM (b + 95)) (st := []) (o := 95) (r := 95) C _ (subM b) (c_md_rest (b := b + 95) (xs (j + 1)) _) (show md_rest (xs (j + 1)) (cut (M1) 95 16) = _ by rw [show cut (M1) 95 16 = cut M 95 16 from h3]; exact h2) lk_L_103 (by decide) rfl ⟨_, _, rfl⟩ rfl rfl (Nat.le_of_ble_eq_true rfl) ⟨by decide, by decide⟩ ⟨by show _ ≤ 601024; omega, by show _ ≤ 7293034; omega⟩ dL_law_576 ?_
  refine y_istore C dL_law_579 (ltb rfl) rfl ?_
  refine y_aloadn C dL_law_581 rfl ?_
  refine y_callV (w1 := wM (b + 95)) (st := []) (o := 95) (r := 95) C _ (subM b) (c_md_thrown (b := b + 95) _) (show md_thrown (cut (pst M1 95 16 Y1) 95 16) = some c9 by rw [cut_pst]; exact h4) lk_L_76 (by decide) rfl ⟨_, _, rfl⟩ rfl rfl (Nat.le_of_ble_eq_true rfl) ⟨by decide, by decide⟩ ⟨by show _ ≤ 601024; omega, by show _ ≤ 7293034; omega⟩ dL_law_582 ?_
  refine y_mem (M' := pst M1 95 16 Y1) pst_cut.symm ?_
  refine y_iload C dL_law_585 rfl ?_
  refine y_icmpeqT C dL_law_587 (tgt := 592) (by decide) rfl ?_
  refine y_iload C dL_law_592 rfl ?_
  by_cases h0 : c9 = 0
  case neg => exact y_ifneT C dL_law_594 (tgt := 609) (by decide) h0 (y_goto C dL_law_609 (tgt := 1144) (by decide) fin)
  refine y_ifneF C dL_law_594 (tgt := 609) (by decide) h0 ?_
  refine y_aloadn C dL_law_597 rfl ?_
  refine y_iconst C dL_law_598 (v := Int32.ofNat 0) (by decide) ?_
  refine y_lald C (r := 111) (len := 1) (j := 0) (by decide) rfl (by decide) (by decide) dL_law_599 ?_
  refine y_iload C dL_law_600 rfl ?_
  refine y_i2l C dL_law_602 ?_
  refine y_lcmpE C dL_law_603 (by first | rw [hM111, h5 h0] | rfl) ?_
  refine y_ifeqT C dL_law_604 (tgt := 609) (by decide) rfl ?_
  refine y_goto C dL_law_609 (tgt := 1144) (by decide) ?_
  exact fin
set_option maxHeartbeats 4000000 in
set_option maxRecDepth 20000 in
theorem w_arm_may {z : ZT} {l : Launch} {g : GG} {b a Ln : Nat} {Q : State → Prop} {xs : Nat → Int32} {Pre Inv : Mem → Mem → Prop} (C : CxK z l g b 0 room_1 cL_law 7 RL (some .boolean)) (hl : l.stackTraces = false) (hX : va_X a Ln xs (zs z) (zs z).heap) (ha : a < (zs z).heap.size) (hLn : Ln ≤ 3072) (hr : ∀ X Y, Inv X Y → Inv (res X 95) (res Y 16)) (hs : Sp_may Pre Inv) {j k n : Nat} (hj : j + 6 ≤ Ln) (hk : k ≤ 5000) (hn : n ≤ 100000) {M : Mem} {o5 o6 : Option Value} (hI : Pre (cut M 0 95) (cut M 95 16)) (kk : ∀ k1 n1 M1 p5 p6, k1 ≤ k + 1 → n1 ≤ n + 6 → Inv (cut M1 0 95) (cut M1 95 16) → YG z g b 7 Q k1 n1 1144 [some (.ref a), some (.ref (b + 0)), some (.ref (b + 95)), some (.ref (b + 111)), some (.int (Int32.ofNat j)), p5, p6] [] M1) : YG z g b 7 Q k n 612 [some (.ref a), some (.ref (b + 0)), some (.ref (b + 95)), some (.ref (b + 111)), some (.int (Int32.ofNat j)), o5, o6] [] M := by
  obtain ⟨v, Y1, h1, h2, h7⟩ := hs (cut M 0 95) (cut M 95 16) hI (xs (j + 1))
  refine y_aloadn C dL_law_612 rfl ?_
  refine y_aloadn C dL_law_613 rfl ?_
  refine y_iload C dL_law_614 rfl ?_
  refine y_iconst C dL_law_616 (v := Int32.ofNat 1) (by decide) ?_
  refine y_iadd C dL_law_617 ?_
  refine y_sld C hX ha (j := j + 1) (by omega) hLn (ofN_add j 1) dL_law_618 ?_
  refine y_callV (w1 := wC b) (st := []) (o := 0) (r := 0) C _ (subC b) (c_rf_may (xs (j + 1)) (cut M 0 95)) h1 lk_L_104 (by decide) rfl ⟨_, _, rfl⟩ rfl rfl (Nat.le_of_ble_eq_true rfl) ⟨by decide, by decide⟩ ⟨by show _ ≤ 601024; omega, by show _ ≤ 7293034; omega⟩ dL_law_619 ?_
  refine y_mem (M' := M) pst_cut.symm ?_
  refine y_aloadn C dL_law_622 rfl ?_
  refine y_aloadn C dL_law_623 rfl ?_
  refine y_iload C dL_law_624 rfl ?_
  refine y_iconst C dL_law_626 (v := Int32.ofNat 1) (by decide) ?_
  refine y_iadd C dL_law_627 ?_
  refine y_sld C hX ha (j := j + 1) (by omega) hLn (ofN_add j 1) dL_law_628 ?_
  refine y_callV (w1 := wM (b + 95)) (st := [.int v]) (o := 95) (r := 95) C _ (subM b) (c_md_may (b := b + 95) (xs (j + 1)) _) (show md_may (xs (j + 1)) (cut (M) 95 16) = _ by rw [show cut (M) 95 16 = cut M 95 16 from rfl]; exact h2) lk_L_107 (by decide) rfl ⟨_, _, rfl⟩ rfl rfl (Nat.le_of_ble_eq_true rfl) ⟨by decide, by decide⟩ ⟨by show _ ≤ 601024; omega, by show _ ≤ 7293034; omega⟩ dL_law_629 ?_
  refine y_icmpeqT C dL_law_632 (tgt := 1144) (by decide) rfl ?_
  exact kk k n (pst M 95 16 Y1) o5 o6 (by omega) (by omega) (by rw [cut_pstM, cut_pst]; have h9 := hr _ _ h7; rw [show res (cut M 0 95) 95 = cut M 0 95 from res_cut] at h9; exact h9)
set_option maxHeartbeats 4000000 in
set_option maxRecDepth 20000 in
theorem w_arm_owed {z : ZT} {l : Launch} {g : GG} {b a Ln : Nat} {Q : State → Prop} {xs : Nat → Int32} {Pre Inv : Mem → Mem → Prop} (C : CxK z l g b 0 room_1 cL_law 7 RL (some .boolean)) (hl : l.stackTraces = false) (hX : va_X a Ln xs (zs z) (zs z).heap) (ha : a < (zs z).heap.size) (hLn : Ln ≤ 3072) (hr : ∀ X Y, Inv X Y → Inv (res X 95) (res Y 16)) (hs : Sp_owed Pre Inv) {j k n : Nat} (hj : j + 6 ≤ Ln) (hk : k ≤ 5000) (hn : n ≤ 100000) {M : Mem} {o5 o6 : Option Value} (hI : Pre (cut M 0 95) (cut M 95 16)) (kk : ∀ k1 n1 M1 p5 p6, k1 ≤ k + 1 → n1 ≤ n + 6 → Inv (cut M1 0 95) (cut M1 95 16) → YG z g b 7 Q k1 n1 1144 [some (.ref a), some (.ref (b + 0)), some (.ref (b + 95)), some (.ref (b + 111)), some (.int (Int32.ofNat j)), p5, p6] [] M1) : YG z g b 7 Q k n 637 [some (.ref a), some (.ref (b + 0)), some (.ref (b + 95)), some (.ref (b + 111)), some (.int (Int32.ofNat j)), o5, o6] [] M := by
  obtain ⟨c9, M1, u, Y1, X1, h1, h2, h3, h4, h5, h6, h7⟩ := st1_use (M := M) (hs (cut M 0 95) (cut M 95 16) hI (xs (j + 1)) (xs (j + 2)))
  have fin := kk (k + 1) (n + 6) (pst M1 95 16 Y1) (some (.int c9)) (some (.int u)) (by omega) (by omega) (by rw [cut_pstM, h6, cut_pst]; exact hr _ _ h7)
  have hM111 : (pst M1 95 16 Y1) 111 0 = M1 111 0 := rfl
  refine y_aloadn C dL_law_637 rfl ?_
  refine y_aloadn C dL_law_638 rfl ?_
  refine y_iload C dL_law_639 rfl ?_
  refine y_iconst C dL_law_641 (v := Int32.ofNat 1) (by decide) ?_
  refine y_iadd C dL_law_642 ?_
  refine y_sld C hX ha (j := j + 1) (by omega) hLn (ofN_add j 1) dL_law_643 ?_
  refine y_aloadn C dL_law_644 rfl ?_
  refine y_iload C dL_law_645 rfl ?_
  refine y_iconst C dL_law_647 (v := Int32.ofNat 2) (by decide) ?_
  refine y_iadd C dL_law_648 ?_
  refine y_sld C hX ha (j := j + 2) (by omega) hLn (ofN_add j 2) dL_law_649 ?_
  refine y_aloadn C dL_law_650 rfl ?_
  refine y_callH (st := []) C _ (c_lw_owed hl (xs (j + 1)) (xs (j + 2)) M) h1 lkh_owed rfl rfl (Nat.le_of_ble_eq_true rfl) ⟨by decide, by decide⟩ ⟨by show k + 1 ≤ 601024; omega, by show n + 6 ≤ 7293034; omega⟩ dL_law_651 ?_
  refine y_istore C dL_law_654 (ltb rfl) rfl ?_
  refine y_aloadn C dL_law_656 rfl ?_
  refine y_aloadn C dL_law_657 rfl ?_
  refine y_iload C dL_law_658 rfl ?_
  refine y_iconst C dL_law_660 (v := Int32.ofNat 1) (by decide) ?_
  refine y_iadd C dL_law_661 ?_
  refine y_sld C hX ha (j := j + 1) (by omega) hLn (ofN_add j 1) dL_law_662 ?_
  refine y_aloadn C dL_law_663 rfl ?_
  refine y_iload C dL_law_664 rfl ?_
  refine y_iconst C dL_law_666 (v := Int32.ofNat 2) (by decide) ?_
  refine y_iadd C dL_law_667 ?_
  refine y_sld C hX ha (j := j + 2) (by omega) hLn (ofN_add j 2) dL_law_668 ?_
  refine y_callV (w1 := wM (b + 95)) (st := []) (o := 95) (r := 95) C _ (subM b) (c_md_owed (b := b + 95) (xs (j + 1)) (xs (j + 2)) _) (show md_owed (xs (j + 1)) (xs (j + 2)) (cut (M1) 95 16) = _ by rw [show cut (M1) 95 16 = cut M 95 16 from h3]; exact h2) lk_L_110 (by decide) rfl ⟨_, _, rfl⟩ rfl rfl (Nat.le_of_ble_eq_true rfl) ⟨by decide, by decide⟩ ⟨by show _ ≤ 601024; omega, by show _ ≤ 7293034; omega⟩ dL_law_669 ?_
  refine y_istore C dL_law_672 (ltb rfl) rfl ?_
  refine y_aloadn C dL_law_674 rfl ?_
  refine y_callV (w1 := wM (b + 95)) (st := []) (o := 95) (r := 95) C _ (subM b) (c_md_thrown (b := b + 95) _) (show md_thrown (cut (pst M1 95 16 Y1) 95 16) = some c9 by rw [cut_pst]; exact h4) lk_L_76 (by decide) rfl ⟨_, _, rfl⟩ rfl rfl (Nat.le_of_ble_eq_true rfl) ⟨by decide, by decide⟩ ⟨by show _ ≤ 601024; omega, by show _ ≤ 7293034; omega⟩ dL_law_675 ?_
  refine y_mem (M' := pst M1 95 16 Y1) pst_cut.symm ?_
  refine y_iload C dL_law_678 rfl ?_
  refine y_icmpeqT C dL_law_680 (tgt := 685) (by decide) rfl ?_
  refine y_iload C dL_law_685 rfl ?_
  by_cases h0 : c9 = 0
  case neg => exact y_ifneT C dL_law_687 (tgt := 702) (by decide) h0 (y_goto C dL_law_702 (tgt := 1144) (by decide) fin)
  refine y_ifneF C dL_law_687 (tgt := 702) (by decide) h0 ?_
  refine y_aloadn C dL_law_690 rfl ?_
  refine y_iconst C dL_law_691 (v := Int32.ofNat 0) (by decide) ?_
  refine y_lald C (r := 111) (len := 1) (j := 0) (by decide) rfl (by decide) (by decide) dL_law_692 ?_
  refine y_iload C dL_law_693 rfl ?_
  refine y_i2l C dL_law_695 ?_
  refine y_lcmpE C dL_law_696 (by first | rw [hM111, h5 h0] | rfl) ?_
  refine y_ifeqT C dL_law_697 (tgt := 702) (by decide) rfl ?_
  refine y_goto C dL_law_702 (tgt := 1144) (by decide) ?_
  exact fin
set_option maxHeartbeats 4000000 in
set_option maxRecDepth 20000 in
theorem w_arm_clear {z : ZT} {l : Launch} {g : GG} {b a Ln : Nat} {Q : State → Prop} {xs : Nat → Int32} {Pre Inv : Mem → Mem → Prop} (C : CxK z l g b 0 room_1 cL_law 7 RL (some .boolean)) (hl : l.stackTraces = false) (hX : va_X a Ln xs (zs z) (zs z).heap) (ha : a < (zs z).heap.size) (hLn : Ln ≤ 3072) (hr : ∀ X Y, Inv X Y → Inv (res X 95) (res Y 16)) (hs : Sp_clear Pre Inv) {j k n : Nat} (hj : j + 6 ≤ Ln) (hk : k ≤ 5000) (hn : n ≤ 100000) {M : Mem} {o5 o6 : Option Value} (hI : Pre (cut M 0 95) (cut M 95 16)) (kk : ∀ k1 n1 M1 p5 p6, k1 ≤ k + 1 → n1 ≤ n + 6 → Inv (cut M1 0 95) (cut M1 95 16) → YG z g b 7 Q k1 n1 1144 [some (.ref a), some (.ref (b + 0)), some (.ref (b + 95)), some (.ref (b + 111)), some (.int (Int32.ofNat j)), p5, p6] [] M1) : YG z g b 7 Q k n 705 [some (.ref a), some (.ref (b + 0)), some (.ref (b + 95)), some (.ref (b + 111)), some (.int (Int32.ofNat j)), o5, o6] [] M := by
  obtain ⟨c9, M1, u, Y1, X1, h1, h2, h3, h4, h5, h6, h7⟩ := st1_use (M := M) (hs (cut M 0 95) (cut M 95 16) hI (xs (j + 1)))
  have fin := kk (k + 1) (n + 6) (pst M1 95 16 Y1) (some (.int c9)) (some (.int u)) (by omega) (by omega) (by rw [cut_pstM, h6, cut_pst]; exact hr _ _ h7)
  have hM111 : (pst M1 95 16 Y1) 111 0 = M1 111 0 := rfl
  refine y_aloadn C dL_law_705 rfl ?_
  refine y_aloadn C dL_law_706 rfl ?_
  refine y_iload C dL_law_707 rfl ?_
  refine y_iconst C dL_law_709 (v := Int32.ofNat 1) (by decide) ?_
  refine y_iadd C dL_law_710 ?_
  refine y_sld C hX ha (j := j + 1) (by omega) hLn (ofN_add j 1) dL_law_711 ?_
  refine y_aloadn C dL_law_712 rfl ?_
  refine y_callH (st := []) C _ (c_lw_clear hl (xs (j + 1)) M) h1 lkh_clear rfl rfl (Nat.le_of_ble_eq_true rfl) ⟨by decide, by decide⟩ ⟨by show k + 1 ≤ 601024; omega, by show n + 6 ≤ 7293034; omega⟩ dL_law_713 ?_
  refine y_istore C dL_law_716 (ltb rfl) rfl ?_
  refine y_aloadn C dL_law_718 rfl ?_
  refine y_aloadn C dL_law_719 rfl ?_
  refine y_iload C dL_law_720 rfl ?_
  refine y_iconst C dL_law_722 (v := Int32.ofNat 1) (by decide) ?_
  refine y_iadd C dL_law_723 ?_
  refine y_sld C hX ha (j := j + 1) (by omega) hLn (ofN_add j 1) dL_law_724 ?_
  refine y_callV (w1 := wM (b + 95)) (st := []) (o := 95) (r := 95) C _ (subM b) (c_md_clear (b := b + 95) (xs (j + 1)) _) (show md_clear (xs (j + 1)) (cut (M1) 95 16) = _ by rw [show cut (M1) 95 16 = cut M 95 16 from h3]; exact h2) lk_L_113 (by decide) rfl ⟨_, _, rfl⟩ rfl rfl (Nat.le_of_ble_eq_true rfl) ⟨by decide, by decide⟩ ⟨by show _ ≤ 601024; omega, by show _ ≤ 7293034; omega⟩ dL_law_725 ?_
  refine y_istore C dL_law_728 (ltb rfl) rfl ?_
  refine y_aloadn C dL_law_730 rfl ?_
  refine y_callV (w1 := wM (b + 95)) (st := []) (o := 95) (r := 95) C _ (subM b) (c_md_thrown (b := b + 95) _) (show md_thrown (cut (pst M1 95 16 Y1) 95 16) = some c9 by rw [cut_pst]; exact h4) lk_L_76 (by decide) rfl ⟨_, _, rfl⟩ rfl rfl (Nat.le_of_ble_eq_true rfl) ⟨by decide, by decide⟩ ⟨by show _ ≤ 601024; omega, by show _ ≤ 7293034; omega⟩ dL_law_731 ?_
  refine y_mem (M' := pst M1 95 16 Y1) pst_cut.symm ?_
  refine y_iload C dL_law_734 rfl ?_
  refine y_icmpeqT C dL_law_736 (tgt := 741) (by decide) rfl ?_
  refine y_iload C dL_law_741 rfl ?_
  by_cases h0 : c9 = 0
  case neg => exact y_ifneT C dL_law_743 (tgt := 758) (by decide) h0 (y_goto C dL_law_758 (tgt := 1144) (by decide) fin)
  refine y_ifneF C dL_law_743 (tgt := 758) (by decide) h0 ?_
  refine y_aloadn C dL_law_746 rfl ?_
  refine y_iconst C dL_law_747 (v := Int32.ofNat 0) (by decide) ?_
  refine y_lald C (r := 111) (len := 1) (j := 0) (by decide) rfl (by decide) (by decide) dL_law_748 ?_
  refine y_iload C dL_law_749 rfl ?_
  refine y_i2l C dL_law_751 ?_
  refine y_lcmpE C dL_law_752 (by first | rw [hM111, h5 h0] | rfl) ?_
  refine y_ifeqT C dL_law_753 (tgt := 758) (by decide) rfl ?_
  refine y_goto C dL_law_758 (tgt := 1144) (by decide) ?_
  exact fin
set_option maxHeartbeats 4000000 in
set_option maxRecDepth 20000 in
theorem w_arm_plan {z : ZT} {l : Launch} {g : GG} {b a Ln : Nat} {Q : State → Prop} {xs : Nat → Int32} {Pre Inv : Mem → Mem → Prop} (C : CxK z l g b 0 room_1 cL_law 7 RL (some .boolean)) (hl : l.stackTraces = false) (hX : va_X a Ln xs (zs z) (zs z).heap) (ha : a < (zs z).heap.size) (hLn : Ln ≤ 3072) (hr : ∀ X Y, Inv X Y → Inv (res X 95) (res Y 16)) (hs : Sp_plan Pre Inv) {j k n : Nat} (hj : j + 6 ≤ Ln) (hk : k ≤ 5000) (hn : n ≤ 100000) {M : Mem} {o5 o6 : Option Value} (hI : Pre (cut M 0 95) (cut M 95 16)) (kk : ∀ k1 n1 M1 p5 p6, k1 ≤ k + 1 → n1 ≤ n + 6 → Inv (cut M1 0 95) (cut M1 95 16) → YG z g b 7 Q k1 n1 1144 [some (.ref a), some (.ref (b + 0)), some (.ref (b + 95)), some (.ref (b + 111)), some (.int (Int32.ofNat j)), p5, p6] [] M1) : YG z g b 7 Q k n 761 [some (.ref a), some (.ref (b + 0)), some (.ref (b + 95)), some (.ref (b + 111)), some (.int (Int32.ofNat j)), o5, o6] [] M := by
  obtain ⟨c9, M1, u, Y1, X1, h1, h2, h3, h4, h5, h6, h7⟩ := st1_use (M := M) (hs (cut M 0 95) (cut M 95 16) hI (xs (j + 1)) (if xs (j + 2) = 0 then 0 else 1) (by by_cases h9 : xs (j + 2) = 0 <;> simp [h9, isB]) (xs (j + 3)))
  have fin := kk (k + 1) (n + 6) (pst M1 95 16 Y1) (some (.int c9)) (some (.int u)) (by omega) (by omega) (by rw [cut_pstM, h6, cut_pst]; exact hr _ _ h7)
  have hM111 : (pst M1 95 16 Y1) 111 0 = M1 111 0 := rfl
  refine y_aloadn C dL_law_761 rfl ?_
  refine y_aloadn C dL_law_762 rfl ?_
  refine y_iload C dL_law_763 rfl ?_
  refine y_iconst C dL_law_765 (v := Int32.ofNat 1) (by decide) ?_
  refine y_iadd C dL_law_766 ?_
  refine y_sld C hX ha (j := j + 1) (by omega) hLn (ofN_add j 1) dL_law_767 ?_
  refine y_aloadn C dL_law_768 rfl ?_
  refine y_iload C dL_law_769 rfl ?_
  refine y_iconst C dL_law_771 (v := Int32.ofNat 2) (by decide) ?_
  refine y_iadd C dL_law_772 ?_
  refine y_sld C hX ha (j := j + 2) (by omega) hLn (ofN_add j 2) dL_law_773 ?_
  refine y_bool C (t1 := 781) dL_law_774 dL_law_777 dL_law_778 dL_law_781 (by decide) (by decide) ?_
  refine y_aloadn C dL_law_782 rfl ?_
  refine y_iload C dL_law_783 rfl ?_
  refine y_iconst C dL_law_785 (v := Int32.ofNat 3) (by decide) ?_
  refine y_iadd C dL_law_786 ?_
  refine y_sld C hX ha (j := j + 3) (by omega) hLn (ofN_add j 3) dL_law_787 ?_
  refine y_aloadn C dL_law_788 rfl ?_
  refine y_callH (st := []) C _ (c_lw_plan hl (xs (j + 1)) (if xs (j + 2) = 0 then 0 else 1) (xs (j + 3)) M) h1 lkh_plan rfl rfl (Nat.le_of_ble_eq_true rfl) ⟨by decide, by decide⟩ ⟨by show k + 1 ≤ 601024; omega, by show n + 6 ≤ 7293034; omega⟩ dL_law_789 ?_
  refine y_istore C dL_law_792 (ltb rfl) rfl ?_
  refine y_aloadn C dL_law_794 rfl ?_
  refine y_aloadn C dL_law_795 rfl ?_
  refine y_iload C dL_law_796 rfl ?_
  refine y_iconst C dL_law_798 (v := Int32.ofNat 1) (by decide) ?_
  refine y_iadd C dL_law_799 ?_
  refine y_sld C hX ha (j := j + 1) (by omega) hLn (ofN_add j 1) dL_law_800 ?_
  refine y_aloadn C dL_law_801 rfl ?_
  refine y_iload C dL_law_802 rfl ?_
  refine y_iconst C dL_law_804 (v := Int32.ofNat 2) (by decide) ?_
  refine y_iadd C dL_law_805 ?_
  refine y_sld C hX ha (j := j + 2) (by omega) hLn (ofN_add j 2) dL_law_806 ?_
  refine y_bool C (t1 := 814) dL_law_807 dL_law_810 dL_law_811 dL_law_814 (by decide) (by decide) ?_
  refine y_aloadn C dL_law_815 rfl ?_
  refine y_iload C dL_law_816 rfl ?_
  refine y_iconst C dL_law_818 (v := Int32.ofNat 3) (by decide) ?_
  refine y_iadd C dL_law_819 ?_
  refine y_sld C hX ha (j := j + 3) (by omega) hLn (ofN_add j 3) dL_law_820 ?_
  refine y_callV (w1 := wM (b + 95)) (st := []) (o := 95) (r := 95) C _ (subM b) (c_md_plan (b := b + 95) (xs (j + 1)) (if xs (j + 2) = 0 then 0 else 1) (xs (j + 3)) _) (show md_plan (xs (j + 1)) (if xs (j + 2) = 0 then 0 else 1) (xs (j + 3)) (cut (M1) 95 16) = _ by rw [show cut (M1) 95 16 = cut M 95 16 from h3]; exact h2) lk_L_117 (by decide) rfl ⟨_, _, rfl⟩ rfl rfl (Nat.le_of_ble_eq_true rfl) ⟨by decide, by decide⟩ ⟨by show _ ≤ 601024; omega, by show _ ≤ 7293034; omega⟩ dL_law_821 ?_
  refine y_istore C dL_law_824 (ltb rfl) rfl ?_
  refine y_aloadn C dL_law_826 rfl ?_
  refine y_callV (w1 := wM (b + 95)) (st := []) (o := 95) (r := 95) C _ (subM b) (c_md_thrown (b := b + 95) _) (show md_thrown (cut (pst M1 95 16 Y1) 95 16) = some c9 by rw [cut_pst]; exact h4) lk_L_76 (by decide) rfl ⟨_, _, rfl⟩ rfl rfl (Nat.le_of_ble_eq_true rfl) ⟨by decide, by decide⟩ ⟨by show _ ≤ 601024; omega, by show _ ≤ 7293034; omega⟩ dL_law_827 ?_
  refine y_mem (M' := pst M1 95 16 Y1) pst_cut.symm ?_
  refine y_iload C dL_law_830 rfl ?_
  refine y_icmpeqT C dL_law_832 (tgt := 837) (by decide) rfl ?_
  refine y_iload C dL_law_837 rfl ?_
  by_cases h0 : c9 = 0
  case neg => exact y_ifneT C dL_law_839 (tgt := 854) (by decide) h0 (y_goto C dL_law_854 (tgt := 1144) (by decide) fin)
  refine y_ifneF C dL_law_839 (tgt := 854) (by decide) h0 ?_
  refine y_aloadn C dL_law_842 rfl ?_
  refine y_iconst C dL_law_843 (v := Int32.ofNat 0) (by decide) ?_
  refine y_lald C (r := 111) (len := 1) (j := 0) (by decide) rfl (by decide) (by decide) dL_law_844 ?_
  refine y_iload C dL_law_845 rfl ?_
  refine y_i2l C dL_law_847 ?_
  refine y_lcmpE C dL_law_848 (by first | rw [hM111, h5 h0] | rfl) ?_
  refine y_ifeqT C dL_law_849 (tgt := 854) (by decide) rfl ?_
  refine y_goto C dL_law_854 (tgt := 1144) (by decide) ?_
  exact fin
set_option maxHeartbeats 4000000 in
set_option maxRecDepth 20000 in
theorem w_arm_row {z : ZT} {l : Launch} {g : GG} {b a Ln : Nat} {Q : State → Prop} {xs : Nat → Int32} {Pre Inv : Mem → Mem → Prop} (C : CxK z l g b 0 room_1 cL_law 7 RL (some .boolean)) (hl : l.stackTraces = false) (hX : va_X a Ln xs (zs z) (zs z).heap) (ha : a < (zs z).heap.size) (hLn : Ln ≤ 3072) (hr : ∀ X Y, Inv X Y → Inv (res X 95) (res Y 16)) (hs : Sp_row Pre Inv) {j k n : Nat} (hj : j + 6 ≤ Ln) (hk : k ≤ 5000) (hn : n ≤ 100000) {M : Mem} {o5 o6 : Option Value} (hI : Pre (cut M 0 95) (cut M 95 16)) (kk : ∀ k1 n1 M1 p5 p6, k1 ≤ k + 1 → n1 ≤ n + 6 → Inv (cut M1 0 95) (cut M1 95 16) → YG z g b 7 Q k1 n1 1144 [some (.ref a), some (.ref (b + 0)), some (.ref (b + 95)), some (.ref (b + 111)), some (.int (Int32.ofNat j)), p5, p6] [] M1) : YG z g b 7 Q k n 857 [some (.ref a), some (.ref (b + 0)), some (.ref (b + 95)), some (.ref (b + 111)), some (.int (Int32.ofNat j)), o5, o6] [] M := by
  obtain ⟨v, X1, Y1, h1, h2, h7⟩ := hs (cut M 0 95) (cut M 95 16) hI (xs (j + 1)) (if xs (j + 2) = 0 then 0 else 1) (by by_cases h9 : xs (j + 2) = 0 <;> simp [h9, isB]) (xs (j + 3))
  refine y_aloadn C dL_law_857 rfl ?_
  refine y_aloadn C dL_law_858 rfl ?_
  refine y_iload C dL_law_859 rfl ?_
  refine y_iconst C dL_law_861 (v := Int32.ofNat 1) (by decide) ?_
  refine y_iadd C dL_law_862 ?_
  refine y_sld C hX ha (j := j + 1) (by omega) hLn (ofN_add j 1) dL_law_863 ?_
  refine y_aloadn C dL_law_864 rfl ?_
  refine y_iload C dL_law_865 rfl ?_
  refine y_iconst C dL_law_867 (v := Int32.ofNat 2) (by decide) ?_
  refine y_iadd C dL_law_868 ?_
  refine y_sld C hX ha (j := j + 2) (by omega) hLn (ofN_add j 2) dL_law_869 ?_
  refine y_bool C (t1 := 877) dL_law_870 dL_law_873 dL_law_874 dL_law_877 (by decide) (by decide) ?_
  refine y_aloadn C dL_law_878 rfl ?_
  refine y_iload C dL_law_879 rfl ?_
  refine y_iconst C dL_law_881 (v := Int32.ofNat 3) (by decide) ?_
  refine y_iadd C dL_law_882 ?_
  refine y_sld C hX ha (j := j + 3) (by omega) hLn (ofN_add j 3) dL_law_883 ?_
  refine y_callV (w1 := wC b) (st := []) (o := 0) (r := 0) C _ (subC b) (c_rf_row (xs (j + 1)) (if xs (j + 2) = 0 then 0 else 1) (xs (j + 3)) (cut M 0 95)) h1 lk_L_118 (by decide) rfl ⟨_, _, rfl⟩ rfl rfl (Nat.le_of_ble_eq_true rfl) ⟨by decide, by decide⟩ ⟨by show _ ≤ 601024; omega, by show _ ≤ 7293034; omega⟩ dL_law_884 ?_
  refine y_aloadn C dL_law_887 rfl ?_
  refine y_aloadn C dL_law_888 rfl ?_
  refine y_iload C dL_law_889 rfl ?_
  refine y_iconst C dL_law_891 (v := Int32.ofNat 1) (by decide) ?_
  refine y_iadd C dL_law_892 ?_
  refine y_sld C hX ha (j := j + 1) (by omega) hLn (ofN_add j 1) dL_law_893 ?_
  refine y_aloadn C dL_law_894 rfl ?_
  refine y_iload C dL_law_895 rfl ?_
  refine y_iconst C dL_law_897 (v := Int32.ofNat 2) (by decide) ?_
  refine y_iadd C dL_law_898 ?_
  refine y_sld C hX ha (j := j + 2) (by omega) hLn (ofN_add j 2) dL_law_899 ?_
  refine y_bool C (t1 := 907) dL_law_900 dL_law_903 dL_law_904 dL_law_907 (by decide) (by decide) ?_
  refine y_aloadn C dL_law_908 rfl ?_
  refine y_iload C dL_law_909 rfl ?_
  refine y_iconst C dL_law_911 (v := Int32.ofNat 3) (by decide) ?_
  refine y_iadd C dL_law_912 ?_
  refine y_sld C hX ha (j := j + 3) (by omega) hLn (ofN_add j 3) dL_law_913 ?_
  refine y_callV (w1 := wM (b + 95)) (st := [.int v]) (o := 95) (r := 95) C _ (subM b) (c_md_row (b := b + 95) (xs (j + 1)) (if xs (j + 2) = 0 then 0 else 1) (xs (j + 3)) _) (show md_row (xs (j + 1)) (if xs (j + 2) = 0 then 0 else 1) (xs (j + 3)) (cut (pst M 0 95 X1) 95 16) = _ by rw [show cut (pst M 0 95 X1) 95 16 = cut M 95 16 from cut_pstC]; exact h2) lk_L_121 (by decide) rfl ⟨_, _, rfl⟩ rfl rfl (Nat.le_of_ble_eq_true rfl) ⟨by decide, by decide⟩ ⟨by show _ ≤ 601024; omega, by show _ ≤ 7293034; omega⟩ dL_law_914 ?_
  refine y_icmpeqT C dL_law_917 (tgt := 1144) (by decide) rfl ?_
  exact kk k n (pst (pst M 0 95 X1) 95 16 Y1) o5 o6 (by omega) (by omega) (by rw [cut_pstM, cut_pst, cut_pst]; exact hr _ _ h7)
set_option maxHeartbeats 4000000 in
set_option maxRecDepth 20000 in
theorem w_arm_left {z : ZT} {l : Launch} {g : GG} {b a Ln : Nat} {Q : State → Prop} {xs : Nat → Int32} {Pre Inv : Mem → Mem → Prop} (C : CxK z l g b 0 room_1 cL_law 7 RL (some .boolean)) (hl : l.stackTraces = false) (hX : va_X a Ln xs (zs z) (zs z).heap) (ha : a < (zs z).heap.size) (hLn : Ln ≤ 3072) (hr : ∀ X Y, Inv X Y → Inv (res X 95) (res Y 16)) (hs : Sp_left Pre Inv) {j k n : Nat} (hj : j + 6 ≤ Ln) (hk : k ≤ 5000) (hn : n ≤ 100000) {M : Mem} {o5 o6 : Option Value} (hI : Pre (cut M 0 95) (cut M 95 16)) (kk : ∀ k1 n1 M1 p5 p6, k1 ≤ k + 1 → n1 ≤ n + 6 → Inv (cut M1 0 95) (cut M1 95 16) → YG z g b 7 Q k1 n1 1144 [some (.ref a), some (.ref (b + 0)), some (.ref (b + 95)), some (.ref (b + 111)), some (.int (Int32.ofNat j)), p5, p6] [] M1) : YG z g b 7 Q k n 922 [some (.ref a), some (.ref (b + 0)), some (.ref (b + 95)), some (.ref (b + 111)), some (.int (Int32.ofNat j)), o5, o6] [] M := by
  obtain ⟨v, X1, Y1, h1, h2, h7⟩ := hs (cut M 0 95) (cut M 95 16) hI 
  refine y_aloadn C dL_law_922 rfl ?_
  refine y_callV (w1 := wC b) (st := []) (o := 0) (r := 0) C _ (subC b) (c_rf_left (cut M 0 95)) h1 lk_L_122 (by decide) rfl ⟨_, _, rfl⟩ rfl rfl (Nat.le_of_ble_eq_true rfl) ⟨by decide, by decide⟩ ⟨by show _ ≤ 601024; omega, by show _ ≤ 7293034; omega⟩ dL_law_923 ?_
  refine y_aloadn C dL_law_926 rfl ?_
  refine y_callV (w1 := wM (b + 95)) (st := [.int v]) (o := 95) (r := 95) C _ (subM b) (c_md_left (b := b + 95) _) (show md_left (cut (pst M 0 95 X1) 95 16) = _ by rw [show cut (pst M 0 95 X1) 95 16 = cut M 95 16 from cut_pstC]; exact h2) lk_L_125 (by decide) rfl ⟨_, _, rfl⟩ rfl rfl (Nat.le_of_ble_eq_true rfl) ⟨by decide, by decide⟩ ⟨by show _ ≤ 601024; omega, by show _ ≤ 7293034; omega⟩ dL_law_927 ?_
  refine y_icmpeqT C dL_law_930 (tgt := 1144) (by decide) rfl ?_
  exact kk k n (pst (pst M 0 95 X1) 95 16 Y1) o5 o6 (by omega) (by omega) (by rw [cut_pstM, cut_pst, cut_pst]; exact hr _ _ h7)
set_option maxHeartbeats 4000000 in
set_option maxRecDepth 20000 in
theorem w_arm_lost {z : ZT} {l : Launch} {g : GG} {b a Ln : Nat} {Q : State → Prop} {xs : Nat → Int32} {Pre Inv : Mem → Mem → Prop} (C : CxK z l g b 0 room_1 cL_law 7 RL (some .boolean)) (hl : l.stackTraces = false) (hX : va_X a Ln xs (zs z) (zs z).heap) (ha : a < (zs z).heap.size) (hLn : Ln ≤ 3072) (hr : ∀ X Y, Inv X Y → Inv (res X 95) (res Y 16)) (hs : Sp_lost Pre Inv) {j k n : Nat} (hj : j + 6 ≤ Ln) (hk : k ≤ 5000) (hn : n ≤ 100000) {M : Mem} {o5 o6 : Option Value} (hI : Pre (cut M 0 95) (cut M 95 16)) (kk : ∀ k1 n1 M1 p5 p6, k1 ≤ k + 1 → n1 ≤ n + 6 → Inv (cut M1 0 95) (cut M1 95 16) → YG z g b 7 Q k1 n1 1144 [some (.ref a), some (.ref (b + 0)), some (.ref (b + 95)), some (.ref (b + 111)), some (.int (Int32.ofNat j)), p5, p6] [] M1) : YG z g b 7 Q k n 935 [some (.ref a), some (.ref (b + 0)), some (.ref (b + 95)), some (.ref (b + 111)), some (.int (Int32.ofNat j)), o5, o6] [] M := by
  obtain ⟨c9, M1, u, Y1, X1, h1, h2, h3, h4, h5, h6, h7⟩ := st1_use (M := M) (hs (cut M 0 95) (cut M 95 16) hI (xs (j + 1)))
  have fin := kk (k + 1) (n + 6) (pst M1 95 16 Y1) (some (.int c9)) (some (.int u)) (by omega) (by omega) (by rw [cut_pstM, h6, cut_pst]; exact hr _ _ h7)
  have hM111 : (pst M1 95 16 Y1) 111 0 = M1 111 0 := rfl
  refine y_aloadn C dL_law_935 rfl ?_
  refine y_aloadn C dL_law_936 rfl ?_
  refine y_iload C dL_law_937 rfl ?_
  refine y_iconst C dL_law_939 (v := Int32.ofNat 1) (by decide) ?_
  refine y_iadd C dL_law_940 ?_
  refine y_sld C hX ha (j := j + 1) (by omega) hLn (ofN_add j 1) dL_law_941 ?_
  refine y_aloadn C dL_law_942 rfl ?_
  refine y_callH (st := []) C _ (c_lw_lost hl (xs (j + 1)) M) h1 lkh_lost rfl rfl (Nat.le_of_ble_eq_true rfl) ⟨by decide, by decide⟩ ⟨by show k + 1 ≤ 601024; omega, by show n + 6 ≤ 7293034; omega⟩ dL_law_943 ?_
  refine y_istore C dL_law_946 (ltb rfl) rfl ?_
  refine y_aloadn C dL_law_948 rfl ?_
  refine y_aloadn C dL_law_949 rfl ?_
  refine y_iload C dL_law_950 rfl ?_
  refine y_iconst C dL_law_952 (v := Int32.ofNat 1) (by decide) ?_
  refine y_iadd C dL_law_953 ?_
  refine y_sld C hX ha (j := j + 1) (by omega) hLn (ofN_add j 1) dL_law_954 ?_
  refine y_callV (w1 := wM (b + 95)) (st := []) (o := 95) (r := 95) C _ (subM b) (c_md_lost (b := b + 95) (xs (j + 1)) _) (show md_lost (xs (j + 1)) (cut (M1) 95 16) = _ by rw [show cut (M1) 95 16 = cut M 95 16 from h3]; exact h2) lk_L_128 (by decide) rfl ⟨_, _, rfl⟩ rfl rfl (Nat.le_of_ble_eq_true rfl) ⟨by decide, by decide⟩ ⟨by show _ ≤ 601024; omega, by show _ ≤ 7293034; omega⟩ dL_law_955 ?_
  refine y_istore C dL_law_958 (ltb rfl) rfl ?_
  refine y_aloadn C dL_law_960 rfl ?_
  refine y_callV (w1 := wM (b + 95)) (st := []) (o := 95) (r := 95) C _ (subM b) (c_md_thrown (b := b + 95) _) (show md_thrown (cut (pst M1 95 16 Y1) 95 16) = some c9 by rw [cut_pst]; exact h4) lk_L_76 (by decide) rfl ⟨_, _, rfl⟩ rfl rfl (Nat.le_of_ble_eq_true rfl) ⟨by decide, by decide⟩ ⟨by show _ ≤ 601024; omega, by show _ ≤ 7293034; omega⟩ dL_law_961 ?_
  refine y_mem (M' := pst M1 95 16 Y1) pst_cut.symm ?_
  refine y_iload C dL_law_964 rfl ?_
  refine y_icmpeqT C dL_law_966 (tgt := 971) (by decide) rfl ?_
  refine y_iload C dL_law_971 rfl ?_
  by_cases h0 : c9 = 0
  case neg => exact y_ifneT C dL_law_973 (tgt := 988) (by decide) h0 (y_goto C dL_law_988 (tgt := 1144) (by decide) fin)
  refine y_ifneF C dL_law_973 (tgt := 988) (by decide) h0 ?_
  refine y_aloadn C dL_law_976 rfl ?_
  refine y_iconst C dL_law_977 (v := Int32.ofNat 0) (by decide) ?_
  refine y_lald C (r := 111) (len := 1) (j := 0) (by decide) rfl (by decide) (by decide) dL_law_978 ?_
  refine y_iload C dL_law_979 rfl ?_
  refine y_i2l C dL_law_981 ?_
  refine y_lcmpE C dL_law_982 (by first | rw [hM111, h5 h0] | rfl) ?_
  refine y_ifeqT C dL_law_983 (tgt := 988) (by decide) rfl ?_
  refine y_goto C dL_law_988 (tgt := 1144) (by decide) ?_
  exact fin
set_option maxHeartbeats 4000000 in
set_option maxRecDepth 20000 in
theorem w_arm_fair {z : ZT} {l : Launch} {g : GG} {b a Ln : Nat} {Q : State → Prop} {xs : Nat → Int32} {Pre Inv : Mem → Mem → Prop} (C : CxK z l g b 0 room_1 cL_law 7 RL (some .boolean)) (hl : l.stackTraces = false) (hX : va_X a Ln xs (zs z) (zs z).heap) (ha : a < (zs z).heap.size) (hLn : Ln ≤ 3072) (hr : ∀ X Y, Inv X Y → Inv (res X 95) (res Y 16)) (hs : Sp_fair Pre Inv) {j k n : Nat} (hj : j + 6 ≤ Ln) (hk : k ≤ 5000) (hn : n ≤ 100000) {M : Mem} {o5 o6 : Option Value} (hI : Pre (cut M 0 95) (cut M 95 16)) (kk : ∀ k1 n1 M1 p5 p6, k1 ≤ k + 1 → n1 ≤ n + 6 → Inv (cut M1 0 95) (cut M1 95 16) → YG z g b 7 Q k1 n1 1144 [some (.ref a), some (.ref (b + 0)), some (.ref (b + 95)), some (.ref (b + 111)), some (.int (Int32.ofNat j)), p5, p6] [] M1) : YG z g b 7 Q k n 991 [some (.ref a), some (.ref (b + 0)), some (.ref (b + 95)), some (.ref (b + 111)), some (.int (Int32.ofNat j)), o5, o6] [] M := by
  obtain ⟨c9, M1, u, Y1, X1, h1, h2, h3, h4, h5, h6, h7⟩ := st2_use (M := M) (hs (cut M 0 95) (cut M 95 16) hI (xs (j + 1)) (xs (j + 2)) (xs (j + 3)) (xs (j + 4)) (xs (j + 5)))
  have fin := kk (k + 1) (n + 6) (pst M1 95 16 Y1) (some (.int c9)) (some (.int u)) (by omega) (by omega) (by rw [cut_pstM, h6, cut_pst]; exact hr _ _ h7)
  have hM111 : (pst M1 95 16 Y1) 111 0 = M1 111 0 := rfl
  refine y_aloadn C dL_law_991 rfl ?_
  refine y_aloadn C dL_law_992 rfl ?_
  refine y_iload C dL_law_993 rfl ?_
  refine y_iconst C dL_law_995 (v := Int32.ofNat 1) (by decide) ?_
  refine y_iadd C dL_law_996 ?_
  refine y_sld C hX ha (j := j + 1) (by omega) hLn (ofN_add j 1) dL_law_997 ?_
  refine y_aloadn C dL_law_998 rfl ?_
  refine y_iload C dL_law_999 rfl ?_
  refine y_iconst C dL_law_1001 (v := Int32.ofNat 2) (by decide) ?_
  refine y_iadd C dL_law_1002 ?_
  refine y_sld C hX ha (j := j + 2) (by omega) hLn (ofN_add j 2) dL_law_1003 ?_
  refine y_aloadn C dL_law_1004 rfl ?_
  refine y_iload C dL_law_1005 rfl ?_
  refine y_iconst C dL_law_1007 (v := Int32.ofNat 3) (by decide) ?_
  refine y_iadd C dL_law_1008 ?_
  refine y_sld C hX ha (j := j + 3) (by omega) hLn (ofN_add j 3) dL_law_1009 ?_
  refine y_aloadn C dL_law_1010 rfl ?_
  refine y_iload C dL_law_1011 rfl ?_
  refine y_iconst C dL_law_1013 (v := Int32.ofNat 4) (by decide) ?_
  refine y_iadd C dL_law_1014 ?_
  refine y_sld C hX ha (j := j + 4) (by omega) hLn (ofN_add j 4) dL_law_1015 ?_
  refine y_aloadn C dL_law_1016 rfl ?_
  refine y_iload C dL_law_1017 rfl ?_
  refine y_iconst C dL_law_1019 (v := Int32.ofNat 5) (by decide) ?_
  refine y_iadd C dL_law_1020 ?_
  refine y_sld C hX ha (j := j + 5) (by omega) hLn (ofN_add j 5) dL_law_1021 ?_
  refine y_aloadn C dL_law_1022 rfl ?_
  refine y_callH (st := []) C _ (c_lw_fair hl (xs (j + 1)) (xs (j + 2)) (xs (j + 3)) (xs (j + 4)) (xs (j + 5)) M) h1 lkh_fair rfl rfl (Nat.le_of_ble_eq_true rfl) ⟨by decide, by decide⟩ ⟨by show k + 1 ≤ 601024; omega, by show n + 6 ≤ 7293034; omega⟩ dL_law_1023 ?_
  refine y_istore C dL_law_1026 (ltb rfl) rfl ?_
  refine y_aloadn C dL_law_1028 rfl ?_
  refine y_aloadn C dL_law_1029 rfl ?_
  refine y_iload C dL_law_1030 rfl ?_
  refine y_iconst C dL_law_1032 (v := Int32.ofNat 1) (by decide) ?_
  refine y_iadd C dL_law_1033 ?_
  refine y_sld C hX ha (j := j + 1) (by omega) hLn (ofN_add j 1) dL_law_1034 ?_
  refine y_aloadn C dL_law_1035 rfl ?_
  refine y_iload C dL_law_1036 rfl ?_
  refine y_iconst C dL_law_1038 (v := Int32.ofNat 2) (by decide) ?_
  refine y_iadd C dL_law_1039 ?_
  refine y_sld C hX ha (j := j + 2) (by omega) hLn (ofN_add j 2) dL_law_1040 ?_
  refine y_aloadn C dL_law_1041 rfl ?_
  refine y_iload C dL_law_1042 rfl ?_
  refine y_iconst C dL_law_1044 (v := Int32.ofNat 3) (by decide) ?_
  refine y_iadd C dL_law_1045 ?_
  refine y_sld C hX ha (j := j + 3) (by omega) hLn (ofN_add j 3) dL_law_1046 ?_
  refine y_aloadn C dL_law_1047 rfl ?_
  refine y_iload C dL_law_1048 rfl ?_
  refine y_iconst C dL_law_1050 (v := Int32.ofNat 4) (by decide) ?_
  refine y_iadd C dL_law_1051 ?_
  refine y_sld C hX ha (j := j + 4) (by omega) hLn (ofN_add j 4) dL_law_1052 ?_
  refine y_aloadn C dL_law_1053 rfl ?_
  refine y_iload C dL_law_1054 rfl ?_
  refine y_iconst C dL_law_1056 (v := Int32.ofNat 5) (by decide) ?_
  refine y_iadd C dL_law_1057 ?_
  refine y_sld C hX ha (j := j + 5) (by omega) hLn (ofN_add j 5) dL_law_1058 ?_
  refine y_callV (w1 := wM (b + 95)) (st := []) (o := 95) (r := 95) C _ (subM b) (c_md_fair (b := b + 95) (xs (j + 1)) (xs (j + 2)) (xs (j + 3)) (xs (j + 4)) (xs (j + 5)) _) (show md_fair (xs (j + 1)) (xs (j + 2)) (xs (j + 3)) (xs (j + 4)) (xs (j + 5)) (cut (M1) 95 16) = _ by rw [show cut (M1) 95 16 = cut M 95 16 from h3]; exact h2) lk_L_132 (by decide) rfl ⟨_, _, rfl⟩ rfl rfl (Nat.le_of_ble_eq_true rfl) ⟨by decide, by decide⟩ ⟨by show _ ≤ 601024; omega, by show _ ≤ 7293034; omega⟩ dL_law_1059 ?_
  refine y_istore C dL_law_1062 (ltb rfl) rfl ?_
  refine y_aloadn C dL_law_1064 rfl ?_
  refine y_callV (w1 := wM (b + 95)) (st := []) (o := 95) (r := 95) C _ (subM b) (c_md_thrown (b := b + 95) _) (show md_thrown (cut (pst M1 95 16 Y1) 95 16) = some c9 by rw [cut_pst]; exact h4) lk_L_76 (by decide) rfl ⟨_, _, rfl⟩ rfl rfl (Nat.le_of_ble_eq_true rfl) ⟨by decide, by decide⟩ ⟨by show _ ≤ 601024; omega, by show _ ≤ 7293034; omega⟩ dL_law_1065 ?_
  refine y_mem (M' := pst M1 95 16 Y1) pst_cut.symm ?_
  refine y_iload C dL_law_1068 rfl ?_
  refine y_icmpeqT C dL_law_1070 (tgt := 1075) (by decide) rfl ?_
  refine y_iload C dL_law_1075 rfl ?_
  by_cases h0 : c9 = 0
  case neg => exact y_ifneT C dL_law_1077 (tgt := 1092) (by decide) h0 (y_goto C dL_law_1092 (tgt := 1144) (by decide) fin)
  refine y_ifneF C dL_law_1077 (tgt := 1092) (by decide) h0 ?_
  refine y_aloadn C dL_law_1080 rfl ?_
  refine y_iconst C dL_law_1081 (v := Int32.ofNat 0) (by decide) ?_
  refine y_lald C (r := 111) (len := 1) (j := 0) (by decide) rfl (by decide) (by decide) dL_law_1082 ?_
  refine y_iload C dL_law_1083 rfl ?_
  refine y_i2l C dL_law_1085 ?_
  refine y_lcmpE C dL_law_1086 (by first | rw [hM111, h5 h0] | rfl) ?_
  refine y_ifeqT C dL_law_1087 (tgt := 1092) (by decide) rfl ?_
  refine y_goto C dL_law_1092 (tgt := 1144) (by decide) ?_
  exact fin
set_option maxHeartbeats 4000000 in
set_option maxRecDepth 20000 in
theorem w_arm_image {z : ZT} {l : Launch} {g : GG} {b a Ln : Nat} {Q : State → Prop} {xs : Nat → Int32} {Pre Inv : Mem → Mem → Prop} (C : CxK z l g b 0 room_1 cL_law 7 RL (some .boolean)) (hl : l.stackTraces = false) (hX : va_X a Ln xs (zs z) (zs z).heap) (ha : a < (zs z).heap.size) (hLn : Ln ≤ 3072) (hr : ∀ X Y, Inv X Y → Inv (res X 95) (res Y 16)) (hs : Sp_image Pre Inv) {j k n : Nat} (hj : j + 6 ≤ Ln) (hk : k ≤ 5000) (hn : n ≤ 100000) {M : Mem} {o5 o6 : Option Value} (hI : Pre (cut M 0 95) (cut M 95 16)) (kk : ∀ k1 n1 M1 p5 p6, k1 ≤ k + 1 → n1 ≤ n + 6 → Inv (cut M1 0 95) (cut M1 95 16) → YG z g b 7 Q k1 n1 1144 [some (.ref a), some (.ref (b + 0)), some (.ref (b + 95)), some (.ref (b + 111)), some (.int (Int32.ofNat j)), p5, p6] [] M1) : YG z g b 7 Q k n 1095 [some (.ref a), some (.ref (b + 0)), some (.ref (b + 95)), some (.ref (b + 111)), some (.int (Int32.ofNat j)), o5, o6] [] M := by
  obtain ⟨X1, Y1, h1, h2, h7⟩ := hs (cut M 0 95) (cut M 95 16) hI 
  refine y_aloadn C dL_law_1095 rfl ?_
  refine y_callV (w1 := wC b) (st := []) (o := 0) (r := 0) C _ (subC b) (c_rf_image (cut M 0 95)) h1 lk_L_133 (by decide) rfl ⟨_, _, rfl⟩ rfl rfl (Nat.le_of_ble_eq_true rfl) ⟨by decide, by decide⟩ ⟨by show _ ≤ 601024; omega, by show _ ≤ 7293034; omega⟩ dL_law_1096 ?_
  refine y_aloadn C dL_law_1099 rfl ?_
  refine y_callV (w1 := wM (b + 95)) (st := []) (o := 95) (r := 95) C _ (subM b) (c_md_image (b := b + 95) _) (show md_image (cut (pst M 0 95 X1) 95 16) = _ by rw [show cut (pst M 0 95 X1) 95 16 = cut M 95 16 from cut_pstC]; exact h2) lk_L_136 (by decide) rfl ⟨_, _, rfl⟩ rfl rfl (Nat.le_of_ble_eq_true rfl) ⟨by decide, by decide⟩ ⟨by show _ ≤ 601024; omega, by show _ ≤ 7293034; omega⟩ dL_law_1100 ?_
  refine y_goto C dL_law_1103 (tgt := 1144) (by decide) ?_
  exact kk k n (pst (pst M 0 95 X1) 95 16 Y1) o5 o6 (by omega) (by omega) (by rw [cut_pstM, cut_pst, cut_pst]; exact hr _ _ h7)
set_option maxHeartbeats 4000000 in
set_option maxRecDepth 20000 in
theorem w_arm_back {z : ZT} {l : Launch} {g : GG} {b a Ln : Nat} {Q : State → Prop} {xs : Nat → Int32} {Pre Inv : Mem → Mem → Prop} (C : CxK z l g b 0 room_1 cL_law 7 RL (some .boolean)) (hl : l.stackTraces = false) (hX : va_X a Ln xs (zs z) (zs z).heap) (ha : a < (zs z).heap.size) (hLn : Ln ≤ 3072) (hr : ∀ X Y, Inv X Y → Inv (res X 95) (res Y 16)) (hs : Sp_back Pre Inv) {j k n : Nat} (hj : j + 6 ≤ Ln) (hk : k ≤ 5000) (hn : n ≤ 100000) {M : Mem} {o5 o6 : Option Value} (hI : Pre (cut M 0 95) (cut M 95 16)) (kk : ∀ k1 n1 M1 p5 p6, k1 ≤ k + 1 → n1 ≤ n + 6 → Inv (cut M1 0 95) (cut M1 95 16) → YG z g b 7 Q k1 n1 1144 [some (.ref a), some (.ref (b + 0)), some (.ref (b + 95)), some (.ref (b + 111)), some (.int (Int32.ofNat j)), p5, p6] [] M1) : YG z g b 7 Q k n 1106 [some (.ref a), some (.ref (b + 0)), some (.ref (b + 95)), some (.ref (b + 111)), some (.int (Int32.ofNat j)), o5, o6] [] M := by
  obtain ⟨v, X1, Y1, h1, h2, h7⟩ := hs (cut M 0 95) (cut M 95 16) hI 
  refine y_aloadn C dL_law_1106 rfl ?_
  refine y_callV (w1 := wC b) (st := []) (o := 0) (r := 0) C _ (subC b) (c_rf_back (cut M 0 95)) h1 lk_L_137 (by decide) rfl ⟨_, _, rfl⟩ rfl rfl (Nat.le_of_ble_eq_true rfl) ⟨by decide, by decide⟩ ⟨by show _ ≤ 601024; omega, by show _ ≤ 7293034; omega⟩ dL_law_1107 ?_
  refine y_aloadn C dL_law_1110 rfl ?_
  refine y_callV (w1 := wM (b + 95)) (st := [.int v]) (o := 95) (r := 95) C _ (subM b) (c_md_back (b := b + 95) _) (show md_back (cut (pst M 0 95 X1) 95 16) = _ by rw [show cut (pst M 0 95 X1) 95 16 = cut M 95 16 from cut_pstC]; exact h2) lk_L_141 (by decide) rfl ⟨_, _, rfl⟩ rfl rfl (Nat.le_of_ble_eq_true rfl) ⟨by decide, by decide⟩ ⟨by show _ ≤ 601024; omega, by show _ ≤ 7293034; omega⟩ dL_law_1111 ?_
  refine y_icmpeqT C dL_law_1114 (tgt := 1144) (by decide) rfl ?_
  exact kk k n (pst (pst M 0 95 X1) 95 16 Y1) o5 o6 (by omega) (by omega) (by rw [cut_pstM, cut_pst, cut_pst]; exact hr _ _ h7)
set_option maxHeartbeats 4000000 in
set_option maxRecDepth 20000 in
theorem w_arm_count {z : ZT} {l : Launch} {g : GG} {b a Ln : Nat} {Q : State → Prop} {xs : Nat → Int32} {Pre Inv : Mem → Mem → Prop} (C : CxK z l g b 0 room_1 cL_law 7 RL (some .boolean)) (hl : l.stackTraces = false) (hX : va_X a Ln xs (zs z) (zs z).heap) (ha : a < (zs z).heap.size) (hLn : Ln ≤ 3072) (hr : ∀ X Y, Inv X Y → Inv (res X 95) (res Y 16)) (hs : Sp_count Pre Inv) {j k n : Nat} (hj : j + 6 ≤ Ln) (hk : k ≤ 5000) (hn : n ≤ 100000) {M : Mem} {o5 o6 : Option Value} (hI : Pre (cut M 0 95) (cut M 95 16)) (kk : ∀ k1 n1 M1 p5 p6, k1 ≤ k + 1 → n1 ≤ n + 6 → Inv (cut M1 0 95) (cut M1 95 16) → YG z g b 7 Q k1 n1 1144 [some (.ref a), some (.ref (b + 0)), some (.ref (b + 95)), some (.ref (b + 111)), some (.int (Int32.ofNat j)), p5, p6] [] M1) : YG z g b 7 Q k n 1119 [some (.ref a), some (.ref (b + 0)), some (.ref (b + 95)), some (.ref (b + 111)), some (.int (Int32.ofNat j)), o5, o6] [] M := by
  obtain ⟨v, Y1, h1, h2, h7⟩ := hs (cut M 0 95) (cut M 95 16) hI (xs (j + 1))
  refine y_aloadn C dL_law_1119 rfl ?_
  refine y_aloadn C dL_law_1120 rfl ?_
  refine y_iload C dL_law_1121 rfl ?_
  refine y_iconst C dL_law_1123 (v := Int32.ofNat 1) (by decide) ?_
  refine y_iadd C dL_law_1124 ?_
  refine y_sld C hX ha (j := j + 1) (by omega) hLn (ofN_add j 1) dL_law_1125 ?_
  refine y_callV (w1 := wC b) (st := []) (o := 0) (r := 0) C _ (subC b) (c_rf_count (xs (j + 1)) (cut M 0 95)) h1 lk_L_142 (by decide) rfl ⟨_, _, rfl⟩ rfl rfl (Nat.le_of_ble_eq_true rfl) ⟨by decide, by decide⟩ ⟨by show _ ≤ 601024; omega, by show _ ≤ 7293034; omega⟩ dL_law_1126 ?_
  refine y_mem (M' := M) pst_cut.symm ?_
  refine y_aloadn C dL_law_1129 rfl ?_
  refine y_aloadn C dL_law_1130 rfl ?_
  refine y_iload C dL_law_1131 rfl ?_
  refine y_iconst C dL_law_1133 (v := Int32.ofNat 1) (by decide) ?_
  refine y_iadd C dL_law_1134 ?_
  refine y_sld C hX ha (j := j + 1) (by omega) hLn (ofN_add j 1) dL_law_1135 ?_
  refine y_callV (w1 := wM (b + 95)) (st := [.int v]) (o := 95) (r := 95) C _ (subM b) (c_md_count (b := b + 95) (xs (j + 1)) _) (show md_count (xs (j + 1)) (cut (M) 95 16) = _ by rw [show cut (M) 95 16 = cut M 95 16 from rfl]; exact h2) lk_L_145 (by decide) rfl ⟨_, _, rfl⟩ rfl rfl (Nat.le_of_ble_eq_true rfl) ⟨by decide, by decide⟩ ⟨by show _ ≤ 601024; omega, by show _ ≤ 7293034; omega⟩ dL_law_1136 ?_
  refine y_icmpeqT C dL_law_1139 (tgt := 1144) (by decide) rfl ?_
  exact kk k n (pst M 95 16 Y1) o5 o6 (by omega) (by omega) (by rw [cut_pstM, cut_pst]; have h9 := hr _ _ h7; rw [show res (cut M 0 95) 95 = cut M 0 95 from res_cut] at h9; exact h9)
