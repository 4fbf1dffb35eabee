theorem fup_eq {fc : Nat → Nat → Nat} {r k c : Nat} : fup fc r k c r k = c := if_pos ⟨rfl, rfl⟩
theorem fup_ne {fc : Nat → Nat → Nat} {r k j c x : Nat} (h : ¬ k = j) (e : fc r k = x) : fup fc r j c r k = x := by
  unfold fup
  rw [if_neg (fun q => h q.2)]
  exact e
theorem fzap_ne {fc fn : Nat → Nat → Nat} {r k n x : Nat} (h : ¬ r = n) (e : fc r k = x) : fzap fc fn n r k = x := by
  unfold fzap
  rw [if_neg h]
  exact e
theorem ndef {N n : Nat} {T : u_T} {tX : Nat → FieldType} {fn : Nat → Nat → Nat} (hok : ∀ k, k < N → parseFieldDescriptor (T k).2.2.1 = some (tX k)) (h : ∀ j, j < N → defaultValue (tX j) = en_f 0 (if fn n j = 0 then 0 else 1) 0) : ∀ ty : Nat → FieldType, (∀ k, k < N → parseFieldDescriptor (T k).2.2.1 = some (ty k)) → ∀ j, j < N → defaultValue (ty j) = en_f 0 (if fn n j = 0 then 0 else 1) 0 := by
  intro ty hty j hj
  rw [Option.some.inj ((hty j hj).symm.trans (hok j hj))]
  exact h j hj
def zapG (M : Mem) (n : Nat) : Mem := fun r i => if n ≤ r then 0 else M r i
theorem nI_toClamp {j len : Nat} (h : j < len) (hl : len < 2 ^ 31) : (Int32.ofNat j).toNatClampNeg = j := nI_clamp (n := j) (by omega)
theorem nI_inb {j len : Nat} (h : j < len) (hl : len < 2 ^ 31) : inb (Int32.ofNat j) len = true := by
  unfold inb
  rw [Bool.and_eq_true, decide_eq_true_eq, decide_eq_true_eq]
  exact ⟨nI_pos (n := j) (by omega), by rw [nI_toClamp h hl]; exact h⟩
theorem ja_fill_loop {p len : Nat} {v : Int32} (hl : len < 2 ^ 31) : ∀ (k j fu : Nat) (M : Mem), j + k = len → k < fu → ja_fill_L5 p len v (Int32.ofNat len) (fun M3 => some M3) fu (Int32.ofNat j) M = some (fun r i => if r = p ∧ j ≤ i ∧ i < len then v else M r i)
  | k, j, 0, M, _, h => absurd h (Nat.not_lt_zero _)
  | 0, j, fu + 1, M, h, _ => by
    rw [ja_fill_L5, if_neg (show ¬ Int32.ofNat j < Int32.ofNat len from nI_nlt (a := j) (b := len) (by omega) (by omega))]
    refine congrArg some (funext fun r => funext fun i => ?_)
    rw [if_neg (by omega)]
  | k + 1, j, fu + 1, M, h, hf => by
    rw [ja_fill_L5, if_pos (show Int32.ofNat j < Int32.ofNat len from nI_lt (a := j) (b := len) (by omega) (by omega)), nI_inb (by omega) hl]
    show ja_fill_L5 p len v (Int32.ofNat len) (fun M3 => some M3) fu (Int32.ofNat j + 1) _ = _
    rw [show Int32.ofNat j + 1 = Int32.ofNat (j + 1) from (nI_succ j).symm, ja_fill_loop hl k (j + 1) fu _ (by omega) (by omega), nI_toClamp (len := len) (by omega) hl]
    refine congrArg some (funext fun r => funext fun i => ?_)
    unfold wr
    by_cases h1 : r = p <;> by_cases h2 : i = j <;> simp [h1, h2] <;> (try omega)
    · by_cases h3 : j + 1 ≤ i ∧ i < len
      · rw [if_pos h3, if_pos ⟨by omega, h3.2⟩]
      · rw [if_neg h3, if_neg (by omega)]
theorem ja_fill_spec {p len : Nat} {v : Int32} {M : Mem} (hl : len < 1000000) : ja_fill p len v M = some (fillM M p len v) := by
  unfold ja_fill
  rw [show (0 : Int32) = Int32.ofNat 0 from rfl, ja_fill_loop (by omega) len 0 FU M (by omega) hl]
  refine congrArg some (funext fun r => funext fun i => ?_)
  unfold fillM
  simp
theorem CTfill {l : Launch} {g : GG} {w : WD} {p len : Nat} (hp : p < w.2.2.1) (hk : w.1 p = (1, len)) (hl : len < 1000000) (v : Int32) {M : Mem} : CT l g w (rmd 1) yJ7_fill_53178 cJ7_fill_53178 4 none [.ref (w.2.2.2 + p), .int v] M finV (some (fillM M p len v)) := by
  rw [← ja_fill_spec (p := p) (len := len) (v := v) (M := M) hl]
  exact c_ja_fill hp hk (by omega) v M
def loopS (j : Nat) (M : Mem) : Mem := fun r i => if r = 96 ∧ 14 + j ≤ i ∧ i < 38 then 2 else M r i
set_option maxHeartbeats 4000000 in
set_option maxRecDepth 20000 in
theorem w_cm_loop {z : ZT} {l : Launch} {g : GG} {b k m : Nat} {R : Room} {Q : State → Prop} {fc : Nat → Nat → Nat} (C : CxK z l g b 96 R cX12_init 2 RX12 none) (hf : fc 95 1 = 96 + 2) : ∀ (n j : Nat), j + n = 24 → ∀ (M : Mem), XK z g (kdL, b) 2 Q k m 194 [none, none] [] fc 111 (loopS j M) → XK z g (kdL, b) 2 Q k m 172 [some (.ref (b + 95)), some (.int (Int32.ofNat j))] [] fc 111 M
  | 0, j, h, M, kk => by
    have hj : j = 24 := by omega
    subst hj
    have hM : loopS 24 M = M := funext fun r => funext fun i => by unfold loopS; rw [if_neg (by omega)]
    rw [hM] at kk
    refine k_iloadn C dX12_init_172 (x := Int32.ofNat 24) rfl ?_
    refine k_bipush C dX12_init_173 (v := (24 : Int32)) (by decide) ?_
    refine k_icmpge C dX12_init_175 (tgt := 194) (by decide) (fun _ => k_wk (L' := [none, none]) trivial kk) (fun h => absurd (by decide) h)
  | n + 1, j, h, M, kk => by
    refine k_iloadn C dX12_init_172 (x := Int32.ofNat j) rfl ?_
    refine k_bipush C dX12_init_173 (v := (24 : Int32)) (by decide) ?_
    refine k_icmpge C dX12_init_175 (tgt := 194) (by decide) (fun h9 => absurd h9 (nI_ge (a := j) (b := 24) (by omega) (by omega))) (fun _ => ?_)
    refine k_aloadn C dX12_init_178 rfl ?_
    refine k_getR C fl_X12_7 cl_11 96 (r := 95) (by decide) rfl hf dX12_init_179 ?_
    refine k_bipush C dX12_init_182 (v := (14 : Int32)) (by decide) ?_
    refine k_iloadn C dX12_init_184 (x := Int32.ofNat j) rfl ?_
    refine k_iadd C dX12_init_185 ?_
    refine k_iconst C dX12_init_186 (v := (2 : Int32)) (by decide) ?_
    have e14 : (14 : Int32) + Int32.ofNat j = Int32.ofNat (14 + j) := by
      have : ∀ j : Nat, j < 24 → (14 : Int32) + Int32.ofNat j = Int32.ofNat (14 + j) := by decide +kernel
      exact this j (by omega)
    refine k_iast C (r := 96) (len := 648) (j := 14 + j) (by decide) rfl (by rw [e14]; exact nI_inb (by omega) (by omega)) (by rw [e14]; exact nI_toClamp (len := 648) (by omega) (by omega)) dX12_init_187 ?_
    refine k_iinc C dX12_init_188 (v := Int32.ofNat (j + 1)) rfl (by rw [show Int32.ofInt 1 = (1 : Int32) from rfl]; exact (nI_succ j).symm) (L' := [some (.ref (b + 95)), some (.int (Int32.ofNat (j + 1)))]) rfl ?_
    refine k_goto C dX12_init_191 (tgt := 172) (by decide) ?_
    refine w_cm_loop C hf n (j + 1) (by omega) _ ?_
    have hM : loopS (j + 1) (wr M 96 (14 + j) 2) = loopS j M := funext fun r => funext fun i => by
      unfold loopS wr
      by_cases h1 : r = 96 <;> by_cases h2 : i = 14 + j
      · simp [h1, h2]
        intro h3
        omega
      · subst h1
        simp only [true_and, h2, if_false]
        by_cases h3 : 14 + (j + 1) ≤ i ∧ i < 38
        · rw [if_pos h3, if_pos ⟨by omega, h3.2⟩]
        · rw [if_neg h3, if_neg (by omega)]
      · simp [h1]
      · simp [h1]
    rw [hM]
    exact kk
def cM_tp (M : Mem) : Mem := wr (wr (zap (zap (zap (wr (zap (M) 2) 1 1 (0 : Int32)) 3) 4) 5) 1 5 (0 : Int32)) 1 6 (0 : Int32)
def cF_tp (fc : Nat → Nat → Nat) : Nat → Nat → Nat := fup (fzap (fup (fzap (fup (fzap (fup (fzap (fc) fcL 2) 1 0 (2 + 2)) fcL 3) 1 2 (3 + 2)) fcL 4) 1 3 (4 + 2)) fcL 5) 1 4 (5 + 2)
set_option maxHeartbeats 4000000 in
set_option maxRecDepth 20000 in
theorem ck_tp {l : Launch} {g : GG} {b : Nat} {fc : Nat → Nat → Nat} {M : Mem} (h0 : ∀ k, fc 1 k = if fcL 1 k = 0 then 0 else 1) : CK l g (kdL, b) (rmk 1 4 1603) yX9_init cX9_init 1 [.ref (b + 1)] fc (2) M (cF_tp fc) (6) (cM_tp M) 4 1603 := by
  refine CK.of rfl (Nat.le_of_ble_eq_true rfl) (catc rfl cat0) rfl (fun z C hin => ?_)
  have C : CxK z l g b (2) (rmk 1 4 1603) cX9_init 1 RX9 none := C
  refine k_wk (L' := [some (.ref (b + 1))]) (And.intro rfl (trivial)) ?_
  refine k_aloadn C dX9_init_0 rfl ?_
  refine k_obj C ⟨tb1 44 _ rfl, tb1 37 _ rfl, tb1 38 _ rfl⟩ ⟨by decide, by decide⟩ (Nat.le_of_ble_eq_true rfl) dX9_init_1 ?_
  refine k_aloadn C dX9_init_4 rfl ?_
  refine k_sipush C dX9_init_5 (v := (400 : Int32)) (by decide) ?_
  refine k_newa C (t := 1) (s := 400) (Or.inl ⟨rfl, rfl⟩) (tb1 72 _ rfl) rfl (by decide) (by decide) (by decide) ⟨by decide, by decide⟩ (fn := fcL) dX9_init_8 ?_
  refine k_putR C hin (T := TX9) (N := 7) (f := 0) rfl (by decide) (fin := true) rfl (tb1 47 _ rfl) rfl cl_9 (r := 1) (by decide) rfl (r' := 2) (tyX9_ok 0 (by decide)) rfl rfl dX9_init_10 ?_
  refine k_aloadn C dX9_init_13 rfl ?_
  refine k_iconst C dX9_init_14 (v := (0 : Int32)) (by decide) ?_
  refine k_putI C hin (T := TX9) (N := 7) (f := 1) rfl (by decide) rfl (tb1 49 _ rfl) rfl cl_9 (r := 1) (by decide) rfl (h0 1) (tyX9_ok 1 (by decide)) rfl rfl dX9_init_15 ?_
  refine k_aloadn C dX9_init_18 rfl ?_
  refine k_sipush C dX9_init_19 (v := (401 : Int32)) (by decide) ?_
  refine k_newq C (s := 401) (tb1 45 _ rfl) rfl (by decide) (by decide) (by decide) ⟨by decide, by decide⟩ (fn := fcL) dX9_init_22 ?_
  refine k_putR C hin (T := TX9) (N := 7) (f := 2) rfl (by decide) (fin := true) rfl (tb1 52 _ rfl) rfl cl_9 (r := 1) (by decide) rfl (r' := 3) (tyX9_ok 2 (by decide)) rfl rfl dX9_init_25 ?_
  refine k_aloadn C dX9_init_28 rfl ?_
  refine k_sipush C dX9_init_29 (v := (401 : Int32)) (by decide) ?_
  refine k_newa C (t := 1) (s := 401) (Or.inl ⟨rfl, rfl⟩) (tb1 72 _ rfl) rfl (by decide) (by decide) (by decide) ⟨by decide, by decide⟩ (fn := fcL) dX9_init_32 ?_
  refine k_putR C hin (T := TX9) (N := 7) (f := 3) rfl (by decide) (fin := true) rfl (tb1 53 _ rfl) rfl cl_9 (r := 1) (by decide) rfl (r' := 4) (tyX9_ok 3 (by decide)) rfl rfl dX9_init_34 ?_
  refine k_aloadn C dX9_init_37 rfl ?_
  refine k_sipush C dX9_init_38 (v := (401 : Int32)) (by decide) ?_
  refine k_newa C (t := 1) (s := 401) (Or.inl ⟨rfl, rfl⟩) (tb1 72 _ rfl) rfl (by decide) (by decide) (by decide) ⟨by decide, by decide⟩ (fn := fcL) dX9_init_41 ?_
  refine k_putR C hin (T := TX9) (N := 7) (f := 4) rfl (by decide) (fin := true) rfl (tb1 54 _ rfl) rfl cl_9 (r := 1) (by decide) rfl (r' := 5) (tyX9_ok 4 (by decide)) rfl rfl dX9_init_43 ?_
  refine k_aloadn C dX9_init_46 rfl ?_
  refine k_iconst C dX9_init_47 (v := (0 : Int32)) (by decide) ?_
  refine k_putI C hin (T := TX9) (N := 7) (f := 5) rfl (by decide) rfl (tb1 55 _ rfl) rfl cl_9 (r := 1) (by decide) rfl (h0 5) (tyX9_ok 5 (by decide)) rfl rfl dX9_init_48 ?_
  refine k_aloadn C dX9_init_51 rfl ?_
  refine k_iconst C dX9_init_52 (v := (0 : Int32)) (by decide) ?_
  refine k_putI C hin (T := TX9) (N := 7) (f := 6) rfl (by decide) rfl (tb1 56 _ rfl) rfl cl_9 (r := 1) (by decide) rfl (h0 6) (tyX9_ok 6 (by decide)) rfl rfl dX9_init_53 ?_
  exact k_ret C dX9_init_56 (Nat.le_of_ble_eq_true rfl) (Nat.le_of_ble_eq_true rfl) rfl rfl
def cM_rv (R : Nat) (M : Mem) : Mem := fillM (zap (wr (zap (zap (wr (zap (wr (wr (wr (wr (zap (zap (zap (wr (wr (M) R 0 (0 : Int32)) R 1 (0 : Int32)) (R + 1)) (R + 2)) (R + 3)) R 5 (0 : Int32)) R 6 (200 : Int32)) R 7 (20 : Int32)) R 8 (10 : Int32)) (R + 4)) R 10 (0 : Int32)) (R + 5)) (R + 6)) R 13 (0 : Int32)) (R + 7)) (R + 4) 24 (2 : Int32)
def cF_rv (R : Nat) (fc : Nat → Nat → Nat) : Nat → Nat → Nat := fup (fzap (fup (fzap (fup (fzap (fup (fzap (fup (fzap (fup (fzap (fup (fzap (fc) fcL (R + 1)) R 2 (R + 1 + 2)) fcL (R + 2)) R 3 (R + 2 + 2)) fcL (R + 3)) R 4 (R + 3 + 2)) fcL (R + 4)) R 9 (R + 4 + 2)) fcL (R + 5)) R 11 (R + 5 + 2)) fcL (R + 6)) R 12 (R + 6 + 2)) fcL (R + 7)) R 14 (R + 7 + 2)
set_option maxHeartbeats 4000000 in
set_option maxRecDepth 20000 in
theorem ck_rv {l : Launch} {g : GG} {b : Nat} {R : Nat} (hR : isRiv R) {fc : Nat → Nat → Nat} {M : Mem} (h0 : ∀ k, fc R k = if fcL R k = 0 then 0 else 1) : CK l g (kdL, b) (rmk 2 7 88) yX5_init cX5_init 1 [.ref (b + R)] fc (R + 1) M (cF_rv R fc) (R + 8) (cM_rv R M) 7 88 := by
  refine CK.of rfl (Nat.le_of_ble_eq_true rfl) (catc rfl cat0) rfl (fun z C hin => ?_)
  have C : CxK z l g b (R + 1) (rmk 2 7 88) cX5_init 1 RX5 none := C
  refine k_wk (L' := [some (.ref (b + R))]) (And.intro rfl (trivial)) ?_
  refine k_aloadn C dX5_init_0 rfl ?_
  refine k_obj C ⟨tb1 78 _ rfl, tb1 37 _ rfl, tb1 38 _ rfl⟩ ⟨by decide, by decide⟩ (Nat.le_of_ble_eq_true rfl) dX5_init_1 ?_
  refine k_aloadn C dX5_init_4 rfl ?_
  refine k_iconst C dX5_init_5 (v := (0 : Int32)) (by decide) ?_
  refine k_putI C hin (T := TX5) (N := 15) (f := 0) rfl (by decide) rfl (tb1 82 _ rfl) rfl cl_5 (r := R) (by omega) (by rcases hR with rfl | rfl | rfl <;> rfl) ((h0 0).trans (by rcases hR with rfl | rfl | rfl <;> rfl)) (tyX5_ok 0 (by decide)) rfl rfl dX5_init_6 ?_
  refine k_aloadn C dX5_init_9 rfl ?_
  refine k_iconst C dX5_init_10 (v := (0 : Int32)) (by decide) ?_
  refine k_putI C hin (T := TX5) (N := 15) (f := 1) rfl (by decide) rfl (tb1 84 _ rfl) rfl cl_5 (r := R) (by omega) (by rcases hR with rfl | rfl | rfl <;> rfl) ((h0 1).trans (by rcases hR with rfl | rfl | rfl <;> rfl)) (tyX5_ok 1 (by decide)) rfl rfl dX5_init_11 ?_
  refine k_aloadn C dX5_init_14 rfl ?_
  refine k_bipush C dX5_init_15 (v := (10 : Int32)) (by decide) ?_
  refine k_newa C (t := 1) (s := 10) (Or.inl ⟨rfl, rfl⟩) (tb1 72 _ rfl) (by rcases hR with rfl | rfl | rfl <;> rfl) (by decide) (by decide) (by decide) ⟨by decide, by decide⟩ (fn := fcL) dX5_init_17 ?_
  refine k_putR C hin (T := TX5) (N := 15) (f := 2) rfl (by decide) (fin := true) rfl (tb1 88 _ rfl) rfl cl_5 (r := R) (by omega) (by rcases hR with rfl | rfl | rfl <;> rfl) (r' := R + 1) (tyX5_ok 2 (by decide)) rfl rfl dX5_init_19 ?_
  refine k_aloadn C dX5_init_22 rfl ?_
  refine k_bipush C dX5_init_23 (v := (10 : Int32)) (by decide) ?_
  refine k_newa C (t := 1) (s := 10) (Or.inl ⟨rfl, rfl⟩) (tb1 72 _ rfl) (by rcases hR with rfl | rfl | rfl <;> rfl) (by decide) (by decide) (by decide) ⟨by decide, by decide⟩ (fn := fcL) dX5_init_25 ?_
  refine k_putR C hin (T := TX5) (N := 15) (f := 3) rfl (by decide) (fin := true) rfl (tb1 90 _ rfl) rfl cl_5 (r := R) (by omega) (by rcases hR with rfl | rfl | rfl <;> rfl) (r' := R + 2) (tyX5_ok 3 (by decide)) rfl rfl dX5_init_27 ?_
  refine k_aloadn C dX5_init_30 rfl ?_
  refine k_bipush C dX5_init_31 (v := (10 : Int32)) (by decide) ?_
  refine k_newa C (t := 1) (s := 10) (Or.inl ⟨rfl, rfl⟩) (tb1 72 _ rfl) (by rcases hR with rfl | rfl | rfl <;> rfl) (by decide) (by decide) (by decide) ⟨by decide, by decide⟩ (fn := fcL) dX5_init_33 ?_
  refine k_putR C hin (T := TX5) (N := 15) (f := 4) rfl (by decide) (fin := true) rfl (tb1 93 _ rfl) rfl cl_5 (r := R) (by omega) (by rcases hR with rfl | rfl | rfl <;> rfl) (r' := R + 3) (tyX5_ok 4 (by decide)) rfl rfl dX5_init_35 ?_
  refine k_aloadn C dX5_init_38 rfl ?_
  refine k_iconst C dX5_init_39 (v := (0 : Int32)) (by decide) ?_
  refine k_putI C hin (T := TX5) (N := 15) (f := 5) rfl (by decide) rfl (tb1 96 _ rfl) rfl cl_5 (r := R) (by omega) (by rcases hR with rfl | rfl | rfl <;> rfl) (fup_ne (by decide) (fzap_ne (by omega) (fup_ne (by decide) (fzap_ne (by omega) (fup_ne (by decide) (fzap_ne (by omega) ((h0 5).trans (by rcases hR with rfl | rfl | rfl <;> rfl)))))))) (tyX5_ok 5 (by decide)) rfl rfl dX5_init_40 ?_
  refine k_aloadn C dX5_init_43 rfl ?_
  refine k_sipush C dX5_init_44 (v := (200 : Int32)) (by decide) ?_
  refine k_putI C hin (T := TX5) (N := 15) (f := 6) rfl (by decide) rfl (tb1 99 _ rfl) rfl cl_5 (r := R) (by omega) (by rcases hR with rfl | rfl | rfl <;> rfl) (fup_ne (by decide) (fzap_ne (by omega) (fup_ne (by decide) (fzap_ne (by omega) (fup_ne (by decide) (fzap_ne (by omega) ((h0 6).trans (by rcases hR with rfl | rfl | rfl <;> rfl)))))))) (tyX5_ok 6 (by decide)) rfl rfl dX5_init_47 ?_
  refine k_aloadn C dX5_init_50 rfl ?_
  refine k_bipush C dX5_init_51 (v := (20 : Int32)) (by decide) ?_
  refine k_putI C hin (T := TX5) (N := 15) (f := 7) rfl (by decide) rfl (tb1 103 _ rfl) rfl cl_5 (r := R) (by omega) (by rcases hR with rfl | rfl | rfl <;> rfl) (fup_ne (by decide) (fzap_ne (by omega) (fup_ne (by decide) (fzap_ne (by omega) (fup_ne (by decide) (fzap_ne (by omega) ((h0 7).trans (by rcases hR with rfl | rfl | rfl <;> rfl)))))))) (tyX5_ok 7 (by decide)) rfl rfl dX5_init_53 ?_
  refine k_aloadn C dX5_init_56 rfl ?_
  refine k_bipush C dX5_init_57 (v := (10 : Int32)) (by decide) ?_
  refine k_putI C hin (T := TX5) (N := 15) (f := 8) rfl (by decide) rfl (tb1 107 _ rfl) rfl cl_5 (r := R) (by omega) (by rcases hR with rfl | rfl | rfl <;> rfl) (fup_ne (by decide) (fzap_ne (by omega) (fup_ne (by decide) (fzap_ne (by omega) (fup_ne (by decide) (fzap_ne (by omega) ((h0 8).trans (by rcases hR with rfl | rfl | rfl <;> rfl)))))))) (tyX5_ok 8 (by decide)) rfl rfl dX5_init_59 ?_
  refine k_aloadn C dX5_init_62 rfl ?_
  refine k_bipush C dX5_init_63 (v := (24 : Int32)) (by decide) ?_
  refine k_newa C (t := 1) (s := 24) (Or.inl ⟨rfl, rfl⟩) (tb1 72 _ rfl) (by rcases hR with rfl | rfl | rfl <;> rfl) (by decide) (by decide) (by decide) ⟨by decide, by decide⟩ (fn := fcL) dX5_init_65 ?_
  refine k_putR C hin (T := TX5) (N := 15) (f := 9) rfl (by decide) (fin := true) rfl (tb1 111 _ rfl) rfl cl_5 (r := R) (by omega) (by rcases hR with rfl | rfl | rfl <;> rfl) (r' := R + 4) (tyX5_ok 9 (by decide)) rfl rfl dX5_init_67 ?_
  refine k_aloadn C dX5_init_70 rfl ?_
  refine k_iconst C dX5_init_71 (v := (0 : Int32)) (by decide) ?_
  refine k_putI C hin (T := TX5) (N := 15) (f := 10) rfl (by decide) rfl (tb1 114 _ rfl) rfl cl_5 (r := R) (by omega) (by rcases hR with rfl | rfl | rfl <;> rfl) (fup_ne (by decide) (fzap_ne (by omega) (fup_ne (by decide) (fzap_ne (by omega) (fup_ne (by decide) (fzap_ne (by omega) (fup_ne (by decide) (fzap_ne (by omega) ((h0 10).trans (by rcases hR with rfl | rfl | rfl <;> rfl)))))))))) (tyX5_ok 10 (by decide)) rfl rfl dX5_init_72 ?_
  refine k_aloadn C dX5_init_75 rfl ?_
  refine k_bipush C dX5_init_76 (v := (12 : Int32)) (by decide) ?_
  refine k_newa C (t := 1) (s := 12) (Or.inl ⟨rfl, rfl⟩) (tb1 72 _ rfl) (by rcases hR with rfl | rfl | rfl <;> rfl) (by decide) (by decide) (by decide) ⟨by decide, by decide⟩ (fn := fcL) dX5_init_78 ?_
  refine k_putR C hin (T := TX5) (N := 15) (f := 11) rfl (by decide) (fin := true) rfl (tb1 116 _ rfl) rfl cl_5 (r := R) (by omega) (by rcases hR with rfl | rfl | rfl <;> rfl) (r' := R + 5) (tyX5_ok 11 (by decide)) rfl rfl dX5_init_80 ?_
  refine k_aloadn C dX5_init_83 rfl ?_
  refine k_bipush C dX5_init_84 (v := (12 : Int32)) (by decide) ?_
  refine k_newa C (t := 1) (s := 12) (Or.inl ⟨rfl, rfl⟩) (tb1 72 _ rfl) (by rcases hR with rfl | rfl | rfl <;> rfl) (by decide) (by decide) (by decide) ⟨by decide, by decide⟩ (fn := fcL) dX5_init_86 ?_
  refine k_putR C hin (T := TX5) (N := 15) (f := 12) rfl (by decide) (fin := true) rfl (tb1 117 _ rfl) rfl cl_5 (r := R) (by omega) (by rcases hR with rfl | rfl | rfl <;> rfl) (r' := R + 6) (tyX5_ok 12 (by decide)) rfl rfl dX5_init_88 ?_
  refine k_aloadn C dX5_init_91 rfl ?_
  refine k_iconst C dX5_init_92 (v := (0 : Int32)) (by decide) ?_
  refine k_putI C hin (T := TX5) (N := 15) (f := 13) rfl (by decide) rfl (tb1 118 _ rfl) rfl cl_5 (r := R) (by omega) (by rcases hR with rfl | rfl | rfl <;> rfl) (fup_ne (by decide) (fzap_ne (by omega) (fup_ne (by decide) (fzap_ne (by omega) (fup_ne (by decide) (fzap_ne (by omega) (fup_ne (by decide) (fzap_ne (by omega) (fup_ne (by decide) (fzap_ne (by omega) (fup_ne (by decide) (fzap_ne (by omega) ((h0 13).trans (by rcases hR with rfl | rfl | rfl <;> rfl)))))))))))))) (tyX5_ok 13 (by decide)) rfl rfl dX5_init_93 ?_
  refine k_aloadn C dX5_init_96 rfl ?_
  refine k_bipush C dX5_init_97 (v := (10 : Int32)) (by decide) ?_
  refine k_newa C (t := 1) (s := 10) (Or.inl ⟨rfl, rfl⟩) (tb1 72 _ rfl) (by rcases hR with rfl | rfl | rfl <;> rfl) (by decide) (by decide) (by decide) ⟨by decide, by decide⟩ (fn := fcL) dX5_init_99 ?_
  refine k_putR C hin (T := TX5) (N := 15) (f := 14) rfl (by decide) (fin := true) rfl (tb1 120 _ rfl) rfl cl_5 (r := R) (by omega) (by rcases hR with rfl | rfl | rfl <;> rfl) (r' := R + 7) (tyX5_ok 14 (by decide)) rfl rfl dX5_init_101 ?_
  refine k_aloadn C dX5_init_104 rfl ?_
  refine k_getR C fl_X5_40 cl_5 (R + 4) (r := R) (by omega) (by rcases hR with rfl | rfl | rfl <;> rfl) (fup_ne (by decide) (fzap_ne (by omega) (fup_ne (by decide) (fzap_ne (by omega) (fup_ne (by decide) (fzap_ne (by omega) (fup_eq))))))) dX5_init_105 ?_
  refine k_iconst C dX5_init_108 (v := (2 : Int32)) (by decide) ?_
  refine k_callS (st := []) C (CTfill (p := R + 4) (len := 24) (by show R + 4 < R + 8; omega) (by rcases hR with rfl | rfl | rfl <;> rfl) (by decide) (2 : Int32)) lk_X5_58 rfl rfl (Nat.le_of_ble_eq_true rfl) ⟨rfl, rfl, by decide, by decide⟩ ⟨by decide, by decide⟩ (by omega) dX5_init_109 ?_
  exact k_ret C dX5_init_112 (Nat.le_of_ble_eq_true rfl) (Nat.le_of_ble_eq_true rfl) rfl rfl
def cM_bk (R : Nat) (M : Mem) : Mem := zap (zapG (zap (wr (wr (wr (wr (wr (M) R 0 (0 : Int32)) R 1 (0 : Int32)) R 2 (0 : Int32)) R 3 (0 : Int32)) R 4 (0 : Int32)) (R + 1)) (R + 2)) (R + 13)
def cF_bk (R : Nat) (fc : Nat → Nat → Nat) : Nat → Nat → Nat := fup (fzap (fup (fup (fzap (fc) fcL (R + 1)) R 5 (R + 1 + 2)) R 6 (R + 2 + 2)) fcL (R + 13)) R 7 (R + 13 + 2)
set_option maxHeartbeats 4000000 in
set_option maxRecDepth 20000 in
theorem ck_bk {l : Launch} {g : GG} {b : Nat} {R : Nat} (hR : isBnk R) {fc : Nat → Nat → Nat} {M : Mem} (h0 : ∀ k, fc R k = if fcL R k = 0 then 0 else 1) : CK l g (kdL, b) (rmk 1 13 130) yX0_init cX0_init 1 [.ref (b + R)] fc (R + 1) M (cF_bk R fc) (R + 14) (cM_bk R M) 13 130 := by
  refine CK.of rfl (Nat.le_of_ble_eq_true rfl) (catc rfl cat0) rfl (fun z C hin => ?_)
  have C : CxK z l g b (R + 1) (rmk 1 13 130) cX0_init 1 RX0 none := C
  refine k_wk (L' := [some (.ref (b + R))]) (And.intro rfl (trivial)) ?_
  refine k_aloadn C dX0_init_0 rfl ?_
  refine k_obj C ⟨tb1 158 _ rfl, tb1 37 _ rfl, tb1 38 _ rfl⟩ ⟨by decide, by decide⟩ (Nat.le_of_ble_eq_true rfl) dX0_init_1 ?_
  refine k_aloadn C dX0_init_4 rfl ?_
  refine k_iconst C dX0_init_5 (v := (0 : Int32)) (by decide) ?_
  refine k_putI C hin (T := TX0) (N := 8) (f := 0) rfl (by decide) rfl (tb1 161 _ rfl) rfl cl_0 (r := R) (by omega) (by rcases hR with rfl | rfl <;> rfl) ((h0 0).trans (by rcases hR with rfl | rfl <;> rfl)) (tyX0_ok 0 (by decide)) rfl rfl dX0_init_6 ?_
  refine k_aloadn C dX0_init_9 rfl ?_
  refine k_iconst C dX0_init_10 (v := (0 : Int32)) (by decide) ?_
  refine k_putI C hin (T := TX0) (N := 8) (f := 1) rfl (by decide) rfl (tb1 163 _ rfl) rfl cl_0 (r := R) (by omega) (by rcases hR with rfl | rfl <;> rfl) ((h0 1).trans (by rcases hR with rfl | rfl <;> rfl)) (tyX0_ok 1 (by decide)) rfl rfl dX0_init_11 ?_
  refine k_aloadn C dX0_init_14 rfl ?_
  refine k_iconst C dX0_init_15 (v := (0 : Int32)) (by decide) ?_
  refine k_putI C hin (T := TX0) (N := 8) (f := 2) rfl (by decide) rfl (tb1 165 _ rfl) rfl cl_0 (r := R) (by omega) (by rcases hR with rfl | rfl <;> rfl) ((h0 2).trans (by rcases hR with rfl | rfl <;> rfl)) (tyX0_ok 2 (by decide)) rfl rfl dX0_init_16 ?_
  refine k_aloadn C dX0_init_19 rfl ?_
  refine k_iconst C dX0_init_20 (v := (0 : Int32)) (by decide) ?_
  refine k_putI C hin (T := TX0) (N := 8) (f := 3) rfl (by decide) rfl (tb1 167 _ rfl) rfl cl_0 (r := R) (by omega) (by rcases hR with rfl | rfl <;> rfl) ((h0 3).trans (by rcases hR with rfl | rfl <;> rfl)) (tyX0_ok 3 (by decide)) rfl rfl dX0_init_21 ?_
  refine k_aloadn C dX0_init_24 rfl ?_
  refine k_iconst C dX0_init_25 (v := (0 : Int32)) (by decide) ?_
  refine k_putI C hin (T := TX0) (N := 8) (f := 4) rfl (by decide) rfl (tb1 169 _ rfl) rfl cl_0 (r := R) (by omega) (by rcases hR with rfl | rfl <;> rfl) ((h0 4).trans (by rcases hR with rfl | rfl <;> rfl)) (tyX0_ok 4 (by decide)) rfl rfl dX0_init_26 ?_
  refine k_aloadn C dX0_init_29 rfl ?_
  refine k_bipush C dX0_init_30 (v := (10 : Int32)) (by decide) ?_
  refine k_newa C (t := 1) (s := 10) (Or.inl ⟨rfl, rfl⟩) (tb1 72 _ rfl) (by rcases hR with rfl | rfl <;> rfl) (by decide) (by decide) (by decide) ⟨by decide, by decide⟩ (fn := fcL) dX0_init_32 ?_
  refine k_putR C hin (T := TX0) (N := 8) (f := 5) rfl (by decide) (fin := true) rfl (tb1 171 _ rfl) rfl cl_0 (r := R) (by omega) (by rcases hR with rfl | rfl <;> rfl) (r' := R + 1) (tyX0_ok 5 (by decide)) rfl rfl dX0_init_34 ?_
  refine k_aloadn C dX0_init_37 rfl ?_
  refine k_bipush C dX0_init_38 (v := (10 : Int32)) (by decide) ?_
  refine k_bipush C dX0_init_40 (v := (10 : Int32)) (by decide) ?_
  refine k_mna C (s := 10) (j := 10) ⟨tb1 159 _ rfl, tb1 72 _ rfl⟩ (by rcases hR with rfl | rfl <;> rfl) (fun i hi => by rcases hR with rfl | rfl <;> exact (show ∀ i, i < 10 → kdL (_ + i) = (1, 10) by decide) i hi) (by decide) (by decide) (by decide) (by decide) (by decide) ⟨by decide, by decide⟩ dX0_init_42 ?_
  refine k_putR C hin (T := TX0) (N := 8) (f := 6) rfl (by decide) (fin := true) rfl (tb1 173 _ rfl) rfl cl_0 (r := R) (by omega) (by rcases hR with rfl | rfl <;> rfl) (r' := R + 2) (tyX0_ok 6 (by decide)) rfl rfl dX0_init_46 ?_
  refine k_aloadn C dX0_init_49 rfl ?_
  refine k_bipush C dX0_init_50 (v := (10 : Int32)) (by decide) ?_
  refine k_newa C (t := 1) (s := 10) (Or.inl ⟨rfl, rfl⟩) (tb1 72 _ rfl) (by rcases hR with rfl | rfl <;> rfl) (by decide) (by decide) (by decide) ⟨by decide, by decide⟩ (fn := fcL) dX0_init_52 ?_
  refine k_putR C hin (T := TX0) (N := 8) (f := 7) rfl (by decide) (fin := true) rfl (tb1 175 _ rfl) rfl cl_0 (r := R) (by omega) (by rcases hR with rfl | rfl <;> rfl) (r' := R + 13) (tyX0_ok 7 (by decide)) rfl rfl dX0_init_54 ?_
  exact k_ret C dX0_init_57 (Nat.le_of_ble_eq_true rfl) (Nat.le_of_ble_eq_true rfl) rfl rfl
def cM_ru (R : Nat) (M : Mem) : Mem := wr (wr (wr (wr (zap (wr (zap (zap (zap (wr (M) R 0 (-1 : Int32)) (R + 1)) (R + 2)) (R + 3)) R 4 (0 : Int32)) (R + 4)) R 6 (0 : Int32)) R 7 (0 : Int32)) R 8 (0 : Int32)) R 9 (0 : Int32)
def cF_ru (R : Nat) (fc : Nat → Nat → Nat) : Nat → Nat → Nat := fup (fzap (fup (fzap (fup (fzap (fup (fzap (fc) fcL (R + 1)) R 1 (R + 1 + 2)) fcL (R + 2)) R 2 (R + 2 + 2)) fcL (R + 3)) R 3 (R + 3 + 2)) fcL (R + 4)) R 5 (R + 4 + 2)
set_option maxHeartbeats 4000000 in
set_option maxRecDepth 20000 in
theorem ck_ru {l : Launch} {g : GG} {b : Nat} {R : Nat} (hR : isRul R) {fc : Nat → Nat → Nat} {M : Mem} (h0 : ∀ k, fc R k = if fcL R k = 0 then 0 else 1) : CK l g (kdL, b) (rmk 1 4 464) yX7_init cX7_init 1 [.ref (b + R)] fc (R + 1) M (cF_ru R fc) (R + 5) (cM_ru R M) 4 464 := by
  refine CK.of rfl (Nat.le_of_ble_eq_true rfl) (catc rfl cat0) rfl (fun z C hin => ?_)
  have C : CxK z l g b (R + 1) (rmk 1 4 464) cX7_init 1 RX7 none := C
  refine k_wk (L' := [some (.ref (b + R))]) (And.intro rfl (trivial)) ?_
  refine k_aloadn C dX7_init_0 rfl ?_
  refine k_obj C ⟨tb1 198 _ rfl, tb1 37 _ rfl, tb1 38 _ rfl⟩ ⟨by decide, by decide⟩ (Nat.le_of_ble_eq_true rfl) dX7_init_1 ?_
  refine k_aloadn C dX7_init_4 rfl ?_
  refine k_iconst C dX7_init_5 (v := (-1 : Int32)) (by decide) ?_
  refine k_putI C hin (T := TX7) (N := 10) (f := 0) rfl (by decide) rfl (tb1 199 _ rfl) rfl cl_7 (r := R) (by omega) (by rcases hR with rfl | rfl | rfl <;> rfl) ((h0 0).trans (by rcases hR with rfl | rfl | rfl <;> rfl)) (tyX7_ok 0 (by decide)) rfl rfl dX7_init_6 ?_
  refine k_aloadn C dX7_init_9 rfl ?_
  refine k_bipush C dX7_init_10 (v := (12 : Int32)) (by decide) ?_
  refine k_newa C (t := 1) (s := 12) (Or.inl ⟨rfl, rfl⟩) (tb1 72 _ rfl) (by rcases hR with rfl | rfl | rfl <;> rfl) (by decide) (by decide) (by decide) ⟨by decide, by decide⟩ (fn := fcL) dX7_init_12 ?_
  refine k_putR C hin (T := TX7) (N := 10) (f := 1) rfl (by decide) (fin := true) rfl (tb1 201 _ rfl) rfl cl_7 (r := R) (by omega) (by rcases hR with rfl | rfl | rfl <;> rfl) (r' := R + 1) (tyX7_ok 1 (by decide)) rfl rfl dX7_init_14 ?_
  refine k_aloadn C dX7_init_17 rfl ?_
  refine k_bipush C dX7_init_18 (v := (12 : Int32)) (by decide) ?_
  refine k_newa C (t := 1) (s := 12) (Or.inl ⟨rfl, rfl⟩) (tb1 72 _ rfl) (by rcases hR with rfl | rfl | rfl <;> rfl) (by decide) (by decide) (by decide) ⟨by decide, by decide⟩ (fn := fcL) dX7_init_20 ?_
  refine k_putR C hin (T := TX7) (N := 10) (f := 2) rfl (by decide) (fin := true) rfl (tb1 202 _ rfl) rfl cl_7 (r := R) (by omega) (by rcases hR with rfl | rfl | rfl <;> rfl) (r' := R + 2) (tyX7_ok 2 (by decide)) rfl rfl dX7_init_22 ?_
  refine k_aloadn C dX7_init_25 rfl ?_
  refine k_sipush C dX7_init_26 (v := (400 : Int32)) (by decide) ?_
  refine k_newa C (t := 1) (s := 400) (Or.inl ⟨rfl, rfl⟩) (tb1 72 _ rfl) (by rcases hR with rfl | rfl | rfl <;> rfl) (by decide) (by decide) (by decide) ⟨by decide, by decide⟩ (fn := fcL) dX7_init_29 ?_
  refine k_putR C hin (T := TX7) (N := 10) (f := 3) rfl (by decide) (fin := true) rfl (tb1 203 _ rfl) rfl cl_7 (r := R) (by omega) (by rcases hR with rfl | rfl | rfl <;> rfl) (r' := R + 3) (tyX7_ok 3 (by decide)) rfl rfl dX7_init_31 ?_
  refine k_aloadn C dX7_init_34 rfl ?_
  refine k_iconst C dX7_init_35 (v := (0 : Int32)) (by decide) ?_
  refine k_putI C hin (T := TX7) (N := 10) (f := 4) rfl (by decide) rfl (tb1 204 _ rfl) rfl cl_7 (r := R) (by omega) (by rcases hR with rfl | rfl | rfl <;> rfl) (fup_ne (by decide) (fzap_ne (by omega) (fup_ne (by decide) (fzap_ne (by omega) (fup_ne (by decide) (fzap_ne (by omega) ((h0 4).trans (by rcases hR with rfl | rfl | rfl <;> rfl)))))))) (tyX7_ok 4 (by decide)) rfl rfl dX7_init_36 ?_
  refine k_aloadn C dX7_init_39 rfl ?_
  refine k_bipush C dX7_init_40 (v := (40 : Int32)) (by decide) ?_
  refine k_newa C (t := 1) (s := 40) (Or.inl ⟨rfl, rfl⟩) (tb1 72 _ rfl) (by rcases hR with rfl | rfl | rfl <;> rfl) (by decide) (by decide) (by decide) ⟨by decide, by decide⟩ (fn := fcL) dX7_init_42 ?_
  refine k_putR C hin (T := TX7) (N := 10) (f := 5) rfl (by decide) (fin := true) rfl (tb1 205 _ rfl) rfl cl_7 (r := R) (by omega) (by rcases hR with rfl | rfl | rfl <;> rfl) (r' := R + 4) (tyX7_ok 5 (by decide)) rfl rfl dX7_init_44 ?_
  refine k_aloadn C dX7_init_47 rfl ?_
  refine k_iconst C dX7_init_48 (v := (0 : Int32)) (by decide) ?_
  refine k_putI C hin (T := TX7) (N := 10) (f := 6) rfl (by decide) rfl (tb1 206 _ rfl) rfl cl_7 (r := R) (by omega) (by rcases hR with rfl | rfl | rfl <;> rfl) (fup_ne (by decide) (fzap_ne (by omega) (fup_ne (by decide) (fzap_ne (by omega) (fup_ne (by decide) (fzap_ne (by omega) (fup_ne (by decide) (fzap_ne (by omega) ((h0 6).trans (by rcases hR with rfl | rfl | rfl <;> rfl)))))))))) (tyX7_ok 6 (by decide)) rfl rfl dX7_init_49 ?_
  refine k_aloadn C dX7_init_52 rfl ?_
  refine k_iconst C dX7_init_53 (v := (0 : Int32)) (by decide) ?_
  refine k_putI C hin (T := TX7) (N := 10) (f := 7) rfl (by decide) rfl (tb1 207 _ rfl) rfl cl_7 (r := R) (by omega) (by rcases hR with rfl | rfl | rfl <;> rfl) (fup_ne (by decide) (fzap_ne (by omega) (fup_ne (by decide) (fzap_ne (by omega) (fup_ne (by decide) (fzap_ne (by omega) (fup_ne (by decide) (fzap_ne (by omega) ((h0 7).trans (by rcases hR with rfl | rfl | rfl <;> rfl)))))))))) (tyX7_ok 7 (by decide)) rfl rfl dX7_init_54 ?_
  refine k_aloadn C dX7_init_57 rfl ?_
  refine k_iconst C dX7_init_58 (v := (0 : Int32)) (by decide) ?_
  refine k_putI C hin (T := TX7) (N := 10) (f := 8) rfl (by decide) rfl (tb1 208 _ rfl) rfl cl_7 (r := R) (by omega) (by rcases hR with rfl | rfl | rfl <;> rfl) (fup_ne (by decide) (fzap_ne (by omega) (fup_ne (by decide) (fzap_ne (by omega) (fup_ne (by decide) (fzap_ne (by omega) (fup_ne (by decide) (fzap_ne (by omega) ((h0 8).trans (by rcases hR with rfl | rfl | rfl <;> rfl)))))))))) (tyX7_ok 8 (by decide)) rfl rfl dX7_init_59 ?_
  refine k_aloadn C dX7_init_62 rfl ?_
  refine k_iconst C dX7_init_63 (v := (0 : Int32)) (by decide) ?_
  refine k_putI C hin (T := TX7) (N := 10) (f := 9) rfl (by decide) rfl (tb1 209 _ rfl) rfl cl_7 (r := R) (by omega) (by rcases hR with rfl | rfl | rfl <;> rfl) (fup_ne (by decide) (fzap_ne (by omega) (fup_ne (by decide) (fzap_ne (by omega) (fup_ne (by decide) (fzap_ne (by omega) (fup_ne (by decide) (fzap_ne (by omega) ((h0 9).trans (by rcases hR with rfl | rfl | rfl <;> rfl)))))))))) (tyX7_ok 9 (by decide)) rfl rfl dX7_init_64 ?_
  exact k_ret C dX7_init_67 (Nat.le_of_ble_eq_true rfl) (Nat.le_of_ble_eq_true rfl) rfl rfl
def cM_rr (M : Mem) : Mem := M
def cF_rr (fc : Nat → Nat → Nat) : Nat → Nat → Nat := fup (fup (fc) 73 0 (1 + 2)) 73 1 (14 + 2)
set_option maxHeartbeats 4000000 in
set_option maxRecDepth 20000 in
theorem ck_rr {l : Launch} {g : GG} {b : Nat} {fc : Nat → Nat → Nat} {M : Mem} (h0 : ∀ k, fc 73 k = if fcL 73 k = 0 then 0 else 1) : CK l g (kdL, b) (rmk 1 0 0) yX6_init cX6_init 3 [.ref (b + 73), .ref (b + 1), .ref (b + 14)] fc (74) M (cF_rr fc) (74) (cM_rr M) 0 0 := by
  refine CK.of rfl (Nat.le_of_ble_eq_true rfl) (catc rfl (catc rfl (catc rfl cat0))) rfl (fun z C hin => ?_)
  have C : CxK z l g b (74) (rmk 1 0 0) cX6_init 3 RX6 none := C
  refine k_wk (L' := [some (.ref (b + 73)), some (.ref (b + 1)), some (.ref (b + 14))]) (And.intro rfl (And.intro rfl (And.intro rfl (trivial)))) ?_
  refine k_aloadn C dX6_init_0 rfl ?_
  refine k_obj C ⟨tb1 236 _ rfl, tb1 37 _ rfl, tb1 38 _ rfl⟩ ⟨by decide, by decide⟩ (Nat.le_of_ble_eq_true rfl) dX6_init_1 ?_
  refine k_aloadn C dX6_init_4 rfl ?_
  refine k_aloadn C dX6_init_5 rfl ?_
  refine k_putR C hin (T := TX6) (N := 2) (f := 0) rfl (by decide) (fin := true) rfl (tb1 237 _ rfl) rfl cl_6 (r := 73) (by decide) rfl (r' := 1) (tyX6_ok 0 (by decide)) rfl rfl dX6_init_6 ?_
  refine k_aloadn C dX6_init_9 rfl ?_
  refine k_aloadn C dX6_init_10 rfl ?_
  refine k_putR C hin (T := TX6) (N := 2) (f := 1) rfl (by decide) (fin := true) rfl (tb1 238 _ rfl) rfl cl_6 (r := 73) (by decide) rfl (r' := 14) (tyX6_ok 1 (by decide)) rfl rfl dX6_init_11 ?_
  exact k_ret C dX6_init_14 (Nat.le_of_ble_eq_true rfl) (Nat.le_of_ble_eq_true rfl) rfl rfl
def cM_rd (M : Mem) : Mem := M
def cF_rd (fc : Nat → Nat → Nat) : Nat → Nat → Nat := fup (fup (fc) 74 0 (1 + 2)) 74 1 (63 + 2)
set_option maxHeartbeats 4000000 in
set_option maxRecDepth 20000 in
theorem ck_rd {l : Launch} {g : GG} {b : Nat} {fc : Nat → Nat → Nat} {M : Mem} (h0 : ∀ k, fc 74 k = if fcL 74 k = 0 then 0 else 1) : CK l g (kdL, b) (rmk 1 0 0) yX8_init cX8_init 3 [.ref (b + 74), .ref (b + 1), .ref (b + 63)] fc (75) M (cF_rd fc) (75) (cM_rd M) 0 0 := by
  refine CK.of rfl (Nat.le_of_ble_eq_true rfl) (catc rfl (catc rfl (catc rfl cat0))) rfl (fun z C hin => ?_)
  have C : CxK z l g b (75) (rmk 1 0 0) cX8_init 3 RX8 none := C
  refine k_wk (L' := [some (.ref (b + 74)), some (.ref (b + 1)), some (.ref (b + 63))]) (And.intro rfl (And.intro rfl (And.intro rfl (trivial)))) ?_
  refine k_aloadn C dX8_init_0 rfl ?_
  refine k_obj C ⟨tb2 9 _ rfl, tb1 37 _ rfl, tb1 38 _ rfl⟩ ⟨by decide, by decide⟩ (Nat.le_of_ble_eq_true rfl) dX8_init_1 ?_
  refine k_aloadn C dX8_init_4 rfl ?_
  refine k_aloadn C dX8_init_5 rfl ?_
  refine k_putR C hin (T := TX8) (N := 2) (f := 0) rfl (by decide) (fin := true) rfl (tb2 10 _ rfl) rfl cl_8 (r := 74) (by decide) rfl (r' := 1) (tyX8_ok 0 (by decide)) rfl rfl dX8_init_6 ?_
  refine k_aloadn C dX8_init_9 rfl ?_
  refine k_aloadn C dX8_init_10 rfl ?_
  refine k_putR C hin (T := TX8) (N := 2) (f := 1) rfl (by decide) (fin := true) rfl (tb2 11 _ rfl) rfl cl_8 (r := 74) (by decide) rfl (r' := 63) (tyX8_ok 1 (by decide)) rfl rfl dX8_init_11 ?_
  exact k_ret C dX8_init_14 (Nat.le_of_ble_eq_true rfl) (Nat.le_of_ble_eq_true rfl) rfl rfl
def cM_mv (M : Mem) : Mem := wr (zap (zap (zap (zap (zap (zap (wr (wr (M) 75 2 (0 : Int32)) 75 3 (0 : Int32)) 76) 77) 78) 79) 80) 81) 75 10 (0 : Int32)
def cF_mv (fc : Nat → Nat → Nat) : Nat → Nat → Nat := fup (fup (fup (fzap (fup (fzap (fup (fzap (fup (fzap (fup (fzap (fup (fzap (fc) fcL 76) 75 4 (76 + 2)) fcL 77) 75 5 (77 + 2)) fcL 78) 75 6 (78 + 2)) fcL 79) 75 7 (79 + 2)) fcL 80) 75 8 (80 + 2)) fcL 81) 75 9 (81 + 2)) 75 0 (6 + 2)) 75 1 (30 + 2)
set_option maxHeartbeats 4000000 in
set_option maxRecDepth 20000 in
theorem ck_mv {l : Launch} {g : GG} {b : Nat} {fc : Nat → Nat → Nat} {M : Mem} (h0 : ∀ k, fc 75 k = if fcL 75 k = 0 then 0 else 1) : CK l g (kdL, b) (rmk 1 6 6164) yX2_init cX2_init 3 [.ref (b + 75), .ref (b + 6), .ref (b + 30)] fc (76) M (cF_mv fc) (82) (cM_mv M) 6 6164 := by
  refine CK.of rfl (Nat.le_of_ble_eq_true rfl) (catc rfl (catc rfl (catc rfl cat0))) rfl (fun z C hin => ?_)
  have C : CxK z l g b (76) (rmk 1 6 6164) cX2_init 3 RX2 none := C
  refine k_wk (L' := [some (.ref (b + 75)), some (.ref (b + 6)), some (.ref (b + 30))]) (And.intro rfl (And.intro rfl (And.intro rfl (trivial)))) ?_
  refine k_aloadn C dX2_init_0 rfl ?_
  refine k_obj C ⟨tb2 22 _ rfl, tb1 37 _ rfl, tb1 38 _ rfl⟩ ⟨by decide, by decide⟩ (Nat.le_of_ble_eq_true rfl) dX2_init_1 ?_
  refine k_aloadn C dX2_init_4 rfl ?_
  refine k_iconst C dX2_init_5 (v := (0 : Int32)) (by decide) ?_
  refine k_putI C hin (T := TX2) (N := 11) (f := 2) rfl (by decide) rfl (tb2 25 _ rfl) rfl cl_2 (r := 75) (by decide) rfl (h0 2) (tyX2_ok 2 (by decide)) rfl rfl dX2_init_6 ?_
  refine k_aloadn C dX2_init_9 rfl ?_
  refine k_iconst C dX2_init_10 (v := (0 : Int32)) (by decide) ?_
  refine k_putI C hin (T := TX2) (N := 11) (f := 3) rfl (by decide) rfl (tb2 28 _ rfl) rfl cl_2 (r := 75) (by decide) rfl (h0 3) (tyX2_ok 3 (by decide)) rfl rfl dX2_init_11 ?_
  refine k_aloadn C dX2_init_14 rfl ?_
  refine k_sipush C dX2_init_15 (v := (1024 : Int32)) (by decide) ?_
  refine k_newa C (t := 1) (s := 1024) (Or.inl ⟨rfl, rfl⟩) (tb1 72 _ rfl) rfl (by decide) (by decide) (by decide) ⟨by decide, by decide⟩ (fn := fcL) dX2_init_18 ?_
  refine k_putR C hin (T := TX2) (N := 11) (f := 4) rfl (by decide) (fin := true) rfl (tb2 29 _ rfl) rfl cl_2 (r := 75) (by decide) rfl (r' := 76) (tyX2_ok 4 (by decide)) rfl rfl dX2_init_20 ?_
  refine k_aloadn C dX2_init_23 rfl ?_
  refine k_sipush C dX2_init_24 (v := (1024 : Int32)) (by decide) ?_
  refine k_newa C (t := 1) (s := 1024) (Or.inl ⟨rfl, rfl⟩) (tb1 72 _ rfl) rfl (by decide) (by decide) (by decide) ⟨by decide, by decide⟩ (fn := fcL) dX2_init_27 ?_
  refine k_putR C hin (T := TX2) (N := 11) (f := 5) rfl (by decide) (fin := true) rfl (tb2 31 _ rfl) rfl cl_2 (r := 75) (by decide) rfl (r' := 77) (tyX2_ok 5 (by decide)) rfl rfl dX2_init_29 ?_
  refine k_aloadn C dX2_init_32 rfl ?_
  refine k_sipush C dX2_init_33 (v := (1024 : Int32)) (by decide) ?_
  refine k_newa C (t := 1) (s := 1024) (Or.inl ⟨rfl, rfl⟩) (tb1 72 _ rfl) rfl (by decide) (by decide) (by decide) ⟨by decide, by decide⟩ (fn := fcL) dX2_init_36 ?_
  refine k_putR C hin (T := TX2) (N := 11) (f := 6) rfl (by decide) (fin := true) rfl (tb2 32 _ rfl) rfl cl_2 (r := 75) (by decide) rfl (r' := 78) (tyX2_ok 6 (by decide)) rfl rfl dX2_init_38 ?_
  refine k_aloadn C dX2_init_41 rfl ?_
  refine k_sipush C dX2_init_42 (v := (1024 : Int32)) (by decide) ?_
  refine k_newa C (t := 2) (s := 1024) (Or.inr ⟨rfl, rfl⟩) (tb2 63 _ rfl) rfl (by decide) (by decide) (by decide) ⟨by decide, by decide⟩ (fn := fcL) dX2_init_45 ?_
  refine k_putR C hin (T := TX2) (N := 11) (f := 7) rfl (by decide) (fin := true) rfl (tb2 33 _ rfl) rfl cl_2 (r := 75) (by decide) rfl (r' := 79) (tyX2_ok 7 (by decide)) rfl rfl dX2_init_47 ?_
  refine k_aloadn C dX2_init_50 rfl ?_
  refine k_sipush C dX2_init_51 (v := (1034 : Int32)) (by decide) ?_
  refine k_newa C (t := 1) (s := 1034) (Or.inl ⟨rfl, rfl⟩) (tb1 72 _ rfl) rfl (by decide) (by decide) (by decide) ⟨by decide, by decide⟩ (fn := fcL) dX2_init_54 ?_
  refine k_putR C hin (T := TX2) (N := 11) (f := 8) rfl (by decide) (fin := true) rfl (tb2 34 _ rfl) rfl cl_2 (r := 75) (by decide) rfl (r' := 80) (tyX2_ok 8 (by decide)) rfl rfl dX2_init_56 ?_
  refine k_aloadn C dX2_init_59 rfl ?_
  refine k_sipush C dX2_init_60 (v := (1034 : Int32)) (by decide) ?_
  refine k_newa C (t := 1) (s := 1034) (Or.inl ⟨rfl, rfl⟩) (tb1 72 _ rfl) rfl (by decide) (by decide) (by decide) ⟨by decide, by decide⟩ (fn := fcL) dX2_init_63 ?_
  refine k_putR C hin (T := TX2) (N := 11) (f := 9) rfl (by decide) (fin := true) rfl (tb2 36 _ rfl) rfl cl_2 (r := 75) (by decide) rfl (r' := 81) (tyX2_ok 9 (by decide)) rfl rfl dX2_init_65 ?_
  refine k_aloadn C dX2_init_68 rfl ?_
  refine k_iconst C dX2_init_69 (v := (0 : Int32)) (by decide) ?_
  refine k_putI C hin (T := TX2) (N := 11) (f := 10) rfl (by decide) rfl (tb2 38 _ rfl) rfl cl_2 (r := 75) (by decide) rfl (h0 10) (tyX2_ok 10 (by decide)) rfl rfl dX2_init_70 ?_
  refine k_aloadn C dX2_init_73 rfl ?_
  refine k_aloadn C dX2_init_74 rfl ?_
  refine k_putR C hin (T := TX2) (N := 11) (f := 0) rfl (by decide) (fin := true) rfl (tb2 23 _ rfl) rfl cl_2 (r := 75) (by decide) rfl (r' := 6) (tyX2_ok 0 (by decide)) rfl rfl dX2_init_75 ?_
  refine k_aloadn C dX2_init_78 rfl ?_
  refine k_aloadn C dX2_init_79 rfl ?_
  refine k_putR C hin (T := TX2) (N := 11) (f := 1) rfl (by decide) (fin := true) rfl (tb2 24 _ rfl) rfl cl_2 (r := 75) (by decide) rfl (r' := 30) (tyX2_ok 1 (by decide)) rfl rfl dX2_init_80 ?_
  exact k_ret C dX2_init_83 (Nat.le_of_ble_eq_true rfl) (Nat.le_of_ble_eq_true rfl) rfl rfl
def cM_pl (M : Mem) : Mem := wr (wr (wr (wr (wr (wr (zap (zap (zap (zap (M) 83) 84) 85) 86) 82 5 (0 : Int32)) 82 6 (0 : Int32)) 82 7 (0 : Int32)) 82 8 (0 : Int32)) 82 9 (0 : Int32)) 82 10 (-1 : Int32)
def cF_pl (fc : Nat → Nat → Nat) : Nat → Nat → Nat := fup (fup (fzap (fup (fzap (fup (fzap (fup (fzap (fc) fcL 83) 82 1 (83 + 2)) fcL 84) 82 2 (84 + 2)) fcL 85) 82 3 (85 + 2)) fcL 86) 82 4 (86 + 2)) 82 0 (75 + 2)
set_option maxHeartbeats 4000000 in
set_option maxRecDepth 20000 in
theorem ck_pl {l : Launch} {g : GG} {b : Nat} {fc : Nat → Nat → Nat} {M : Mem} (h0 : ∀ k, fc 82 k = if fcL 82 k = 0 then 0 else 1) : CK l g (kdL, b) (rmk 1 4 8192) yX4_init cX4_init 2 [.ref (b + 82), .ref (b + 75)] fc (83) M (cF_pl fc) (87) (cM_pl M) 4 8192 := by
  refine CK.of rfl (Nat.le_of_ble_eq_true rfl) (catc rfl (catc rfl cat0)) rfl (fun z C hin => ?_)
  have C : CxK z l g b (83) (rmk 1 4 8192) cX4_init 2 RX4 none := C
  refine k_wk (L' := [some (.ref (b + 82)), some (.ref (b + 75))]) (And.intro rfl (And.intro rfl (trivial))) ?_
  refine k_aloadn C dX4_init_0 rfl ?_
  refine k_obj C ⟨tb2 69 _ rfl, tb1 37 _ rfl, tb1 38 _ rfl⟩ ⟨by decide, by decide⟩ (Nat.le_of_ble_eq_true rfl) dX4_init_1 ?_
  refine k_aloadn C dX4_init_4 rfl ?_
  refine k_sipush C dX4_init_5 (v := (2048 : Int32)) (by decide) ?_
  refine k_newa C (t := 1) (s := 2048) (Or.inl ⟨rfl, rfl⟩) (tb1 72 _ rfl) rfl (by decide) (by decide) (by decide) ⟨by decide, by decide⟩ (fn := fcL) dX4_init_8 ?_
  refine k_putR C hin (T := TX4) (N := 11) (f := 1) rfl (by decide) (fin := true) rfl (tb2 71 _ rfl) rfl cl_4 (r := 82) (by decide) rfl (r' := 83) (tyX4_ok 1 (by decide)) rfl rfl dX4_init_10 ?_
  refine k_aloadn C dX4_init_13 rfl ?_
  refine k_sipush C dX4_init_14 (v := (2048 : Int32)) (by decide) ?_
  refine k_newa C (t := 1) (s := 2048) (Or.inl ⟨rfl, rfl⟩) (tb1 72 _ rfl) rfl (by decide) (by decide) (by decide) ⟨by decide, by decide⟩ (fn := fcL) dX4_init_17 ?_
  refine k_putR C hin (T := TX4) (N := 11) (f := 2) rfl (by decide) (fin := true) rfl (tb2 72 _ rfl) rfl cl_4 (r := 82) (by decide) rfl (r' := 84) (tyX4_ok 2 (by decide)) rfl rfl dX4_init_19 ?_
  refine k_aloadn C dX4_init_22 rfl ?_
  refine k_sipush C dX4_init_23 (v := (2048 : Int32)) (by decide) ?_
  refine k_newa C (t := 1) (s := 2048) (Or.inl ⟨rfl, rfl⟩) (tb1 72 _ rfl) rfl (by decide) (by decide) (by decide) ⟨by decide, by decide⟩ (fn := fcL) dX4_init_26 ?_
  refine k_putR C hin (T := TX4) (N := 11) (f := 3) rfl (by decide) (fin := true) rfl (tb2 73 _ rfl) rfl cl_4 (r := 82) (by decide) rfl (r' := 85) (tyX4_ok 3 (by decide)) rfl rfl dX4_init_28 ?_
  refine k_aloadn C dX4_init_31 rfl ?_
  refine k_sipush C dX4_init_32 (v := (2048 : Int32)) (by decide) ?_
  refine k_newa C (t := 2) (s := 2048) (Or.inr ⟨rfl, rfl⟩) (tb2 63 _ rfl) rfl (by decide) (by decide) (by decide) ⟨by decide, by decide⟩ (fn := fcL) dX4_init_35 ?_
  refine k_putR C hin (T := TX4) (N := 11) (f := 4) rfl (by decide) (fin := true) rfl (tb2 74 _ rfl) rfl cl_4 (r := 82) (by decide) rfl (r' := 86) (tyX4_ok 4 (by decide)) rfl rfl dX4_init_37 ?_
  refine k_aloadn C dX4_init_40 rfl ?_
  refine k_iconst C dX4_init_41 (v := (0 : Int32)) (by decide) ?_
  refine k_putI C hin (T := TX4) (N := 11) (f := 5) rfl (by decide) rfl (tb2 75 _ rfl) rfl cl_4 (r := 82) (by decide) rfl (h0 5) (tyX4_ok 5 (by decide)) rfl rfl dX4_init_42 ?_
  refine k_aloadn C dX4_init_45 rfl ?_
  refine k_iconst C dX4_init_46 (v := (0 : Int32)) (by decide) ?_
  refine k_putI C hin (T := TX4) (N := 11) (f := 6) rfl (by decide) rfl (tb2 76 _ rfl) rfl cl_4 (r := 82) (by decide) rfl (h0 6) (tyX4_ok 6 (by decide)) rfl rfl dX4_init_47 ?_
  refine k_aloadn C dX4_init_50 rfl ?_
  refine k_iconst C dX4_init_51 (v := (0 : Int32)) (by decide) ?_
  refine k_putI C hin (T := TX4) (N := 11) (f := 7) rfl (by decide) rfl (tb2 77 _ rfl) rfl cl_4 (r := 82) (by decide) rfl (h0 7) (tyX4_ok 7 (by decide)) rfl rfl dX4_init_52 ?_
  refine k_aloadn C dX4_init_55 rfl ?_
  refine k_iconst C dX4_init_56 (v := (0 : Int32)) (by decide) ?_
  refine k_putI C hin (T := TX4) (N := 11) (f := 8) rfl (by decide) rfl (tb2 78 _ rfl) rfl cl_4 (r := 82) (by decide) rfl (h0 8) (tyX4_ok 8 (by decide)) rfl rfl dX4_init_57 ?_
  refine k_aloadn C dX4_init_60 rfl ?_
  refine k_iconst C dX4_init_61 (v := (0 : Int32)) (by decide) ?_
  refine k_putI C hin (T := TX4) (N := 11) (f := 9) rfl (by decide) rfl (tb2 79 _ rfl) rfl cl_4 (r := 82) (by decide) rfl (h0 9) (tyX4_ok 9 (by decide)) rfl rfl dX4_init_62 ?_
  refine k_aloadn C dX4_init_65 rfl ?_
  refine k_iconst C dX4_init_66 (v := (-1 : Int32)) (by decide) ?_
  refine k_putI C hin (T := TX4) (N := 11) (f := 10) rfl (by decide) rfl (tb2 80 _ rfl) rfl cl_4 (r := 82) (by decide) rfl (h0 10) (tyX4_ok 10 (by decide)) rfl rfl dX4_init_67 ?_
  refine k_aloadn C dX4_init_70 rfl ?_
  refine k_aloadn C dX4_init_71 rfl ?_
  refine k_putR C hin (T := TX4) (N := 11) (f := 0) rfl (by decide) (fin := true) rfl (tb2 70 _ rfl) rfl cl_4 (r := 82) (by decide) rfl (r' := 75) (tyX4_ok 0 (by decide)) rfl rfl dX4_init_72 ?_
  exact k_ret C dX4_init_75 (Nat.le_of_ble_eq_true rfl) (Nat.le_of_ble_eq_true rfl) rfl rfl
def cM_od (M : Mem) : Mem := wr (zap (M) 88) 87 2 (0 : Int32)
def cF_od (fc : Nat → Nat → Nat) : Nat → Nat → Nat := fup (fup (fzap (fc) fcL 88) 87 1 (88 + 2)) 87 0 (75 + 2)
set_option maxHeartbeats 4000000 in
set_option maxRecDepth 20000 in
theorem ck_od {l : Launch} {g : GG} {b : Nat} {fc : Nat → Nat → Nat} {M : Mem} (h0 : ∀ k, fc 87 k = if fcL 87 k = 0 then 0 else 1) : CK l g (kdL, b) (rmk 1 1 6) yX3_init cX3_init 2 [.ref (b + 87), .ref (b + 75)] fc (88) M (cF_od fc) (89) (cM_od M) 1 6 := by
  refine CK.of rfl (Nat.le_of_ble_eq_true rfl) (catc rfl (catc rfl cat0)) rfl (fun z C hin => ?_)
  have C : CxK z l g b (88) (rmk 1 1 6) cX3_init 2 RX3 none := C
  refine k_wk (L' := [some (.ref (b + 87)), some (.ref (b + 75))]) (And.intro rfl (And.intro rfl (trivial))) ?_
  refine k_aloadn C dX3_init_0 rfl ?_
  refine k_obj C ⟨tb2 109 _ rfl, tb1 37 _ rfl, tb1 38 _ rfl⟩ ⟨by decide, by decide⟩ (Nat.le_of_ble_eq_true rfl) dX3_init_1 ?_
  refine k_aloadn C dX3_init_4 rfl ?_
  refine k_bipush C dX3_init_5 (v := (6 : Int32)) (by decide) ?_
  refine k_newa C (t := 1) (s := 6) (Or.inl ⟨rfl, rfl⟩) (tb1 72 _ rfl) rfl (by decide) (by decide) (by decide) ⟨by decide, by decide⟩ (fn := fcL) dX3_init_7 ?_
  refine k_putR C hin (T := TX3) (N := 3) (f := 1) rfl (by decide) (fin := true) rfl (tb2 111 _ rfl) rfl cl_3 (r := 87) (by decide) rfl (r' := 88) (tyX3_ok 1 (by decide)) rfl rfl dX3_init_9 ?_
  refine k_aloadn C dX3_init_12 rfl ?_
  refine k_iconst C dX3_init_13 (v := (0 : Int32)) (by decide) ?_
  refine k_putI C hin (T := TX3) (N := 3) (f := 2) rfl (by decide) rfl (tb2 112 _ rfl) rfl cl_3 (r := 87) (by decide) rfl (h0 2) (tyX3_ok 2 (by decide)) rfl rfl dX3_init_14 ?_
  refine k_aloadn C dX3_init_17 rfl ?_
  refine k_aloadn C dX3_init_18 rfl ?_
  refine k_putR C hin (T := TX3) (N := 3) (f := 0) rfl (by decide) (fin := true) rfl (tb2 110 _ rfl) rfl cl_3 (r := 87) (by decide) rfl (r' := 75) (tyX3_ok 0 (by decide)) rfl rfl dX3_init_19 ?_
  exact k_ret C dX3_init_22 (Nat.le_of_ble_eq_true rfl) (Nat.le_of_ble_eq_true rfl) rfl rfl
def cM_mk (M : Mem) : Mem := wr (wr (wr (wr (wr (wr (wr (zap (zap (zap (zap (zap (M) 90) 91) 92) 93) 94) 89 7 (0 : Int32)) 89 8 (0 : Int32)) 89 9 (0 : Int32)) 89 10 (0 : Int32)) 89 11 (0 : Int32)) 89 12 (0 : Int32)) 89 13 (0 : Int32)
def cF_mk (fc : Nat → Nat → Nat) : Nat → Nat → Nat := fup (fup (fup (fzap (fup (fzap (fup (fzap (fup (fzap (fup (fzap (fc) fcL 90) 89 2 (90 + 2)) fcL 91) 89 3 (91 + 2)) fcL 92) 89 4 (92 + 2)) fcL 93) 89 5 (93 + 2)) fcL 94) 89 6 (94 + 2)) 89 0 (75 + 2)) 89 1 (58 + 2)
set_option maxHeartbeats 4000000 in
set_option maxRecDepth 20000 in
theorem ck_mk {l : Launch} {g : GG} {b : Nat} {fc : Nat → Nat → Nat} {M : Mem} (h0 : ∀ k, fc 89 k = if fcL 89 k = 0 then 0 else 1) : CK l g (kdL, b) (rmk 1 5 200) yX1_init cX1_init 3 [.ref (b + 89), .ref (b + 75), .ref (b + 58)] fc (90) M (cF_mk fc) (95) (cM_mk M) 5 200 := by
  refine CK.of rfl (Nat.le_of_ble_eq_true rfl) (catc rfl (catc rfl (catc rfl cat0))) rfl (fun z C hin => ?_)
  have C : CxK z l g b (90) (rmk 1 5 200) cX1_init 3 RX1 none := C
  refine k_wk (L' := [some (.ref (b + 89)), some (.ref (b + 75)), some (.ref (b + 58))]) (And.intro rfl (And.intro rfl (And.intro rfl (trivial)))) ?_
  refine k_aloadn C dX1_init_0 rfl ?_
  refine k_obj C ⟨tb2 125 _ rfl, tb1 37 _ rfl, tb1 38 _ rfl⟩ ⟨by decide, by decide⟩ (Nat.le_of_ble_eq_true rfl) dX1_init_1 ?_
  refine k_aloadn C dX1_init_4 rfl ?_
  refine k_bipush C dX1_init_5 (v := (40 : Int32)) (by decide) ?_
  refine k_newa C (t := 1) (s := 40) (Or.inl ⟨rfl, rfl⟩) (tb1 72 _ rfl) rfl (by decide) (by decide) (by decide) ⟨by decide, by decide⟩ (fn := fcL) dX1_init_7 ?_
  refine k_putR C hin (T := TX1) (N := 14) (f := 2) rfl (by decide) (fin := true) rfl (tb2 128 _ rfl) rfl cl_1 (r := 89) (by decide) rfl (r' := 90) (tyX1_ok 2 (by decide)) rfl rfl dX1_init_9 ?_
  refine k_aloadn C dX1_init_12 rfl ?_
  refine k_bipush C dX1_init_13 (v := (40 : Int32)) (by decide) ?_
  refine k_newa C (t := 1) (s := 40) (Or.inl ⟨rfl, rfl⟩) (tb1 72 _ rfl) rfl (by decide) (by decide) (by decide) ⟨by decide, by decide⟩ (fn := fcL) dX1_init_15 ?_
  refine k_putR C hin (T := TX1) (N := 14) (f := 3) rfl (by decide) (fin := true) rfl (tb2 129 _ rfl) rfl cl_1 (r := 89) (by decide) rfl (r' := 91) (tyX1_ok 3 (by decide)) rfl rfl dX1_init_17 ?_
  refine k_aloadn C dX1_init_20 rfl ?_
  refine k_bipush C dX1_init_21 (v := (40 : Int32)) (by decide) ?_
  refine k_newa C (t := 1) (s := 40) (Or.inl ⟨rfl, rfl⟩) (tb1 72 _ rfl) rfl (by decide) (by decide) (by decide) ⟨by decide, by decide⟩ (fn := fcL) dX1_init_23 ?_
  refine k_putR C hin (T := TX1) (N := 14) (f := 4) rfl (by decide) (fin := true) rfl (tb2 130 _ rfl) rfl cl_1 (r := 89) (by decide) rfl (r' := 92) (tyX1_ok 4 (by decide)) rfl rfl dX1_init_25 ?_
  refine k_aloadn C dX1_init_28 rfl ?_
  refine k_bipush C dX1_init_29 (v := (40 : Int32)) (by decide) ?_
  refine k_newa C (t := 2) (s := 40) (Or.inr ⟨rfl, rfl⟩) (tb2 63 _ rfl) rfl (by decide) (by decide) (by decide) ⟨by decide, by decide⟩ (fn := fcL) dX1_init_31 ?_
  refine k_putR C hin (T := TX1) (N := 14) (f := 5) rfl (by decide) (fin := true) rfl (tb2 131 _ rfl) rfl cl_1 (r := 89) (by decide) rfl (r' := 93) (tyX1_ok 5 (by decide)) rfl rfl dX1_init_33 ?_
  refine k_aloadn C dX1_init_36 rfl ?_
  refine k_bipush C dX1_init_37 (v := (40 : Int32)) (by decide) ?_
  refine k_newa C (t := 2) (s := 40) (Or.inr ⟨rfl, rfl⟩) (tb2 63 _ rfl) rfl (by decide) (by decide) (by decide) ⟨by decide, by decide⟩ (fn := fcL) dX1_init_39 ?_
  refine k_putR C hin (T := TX1) (N := 14) (f := 6) rfl (by decide) (fin := true) rfl (tb2 132 _ rfl) rfl cl_1 (r := 89) (by decide) rfl (r' := 94) (tyX1_ok 6 (by decide)) rfl rfl dX1_init_41 ?_
  refine k_aloadn C dX1_init_44 rfl ?_
  refine k_iconst C dX1_init_45 (v := (0 : Int32)) (by decide) ?_
  refine k_putI C hin (T := TX1) (N := 14) (f := 7) rfl (by decide) rfl (tb2 133 _ rfl) rfl cl_1 (r := 89) (by decide) rfl (h0 7) (tyX1_ok 7 (by decide)) rfl rfl dX1_init_46 ?_
  refine k_aloadn C dX1_init_49 rfl ?_
  refine k_iconst C dX1_init_50 (v := (0 : Int32)) (by decide) ?_
  refine k_putI C hin (T := TX1) (N := 14) (f := 8) rfl (by decide) rfl (tb2 134 _ rfl) rfl cl_1 (r := 89) (by decide) rfl (h0 8) (tyX1_ok 8 (by decide)) rfl rfl dX1_init_51 ?_
  refine k_aloadn C dX1_init_54 rfl ?_
  refine k_iconst C dX1_init_55 (v := (0 : Int32)) (by decide) ?_
  refine k_putI C hin (T := TX1) (N := 14) (f := 9) rfl (by decide) rfl (tb2 135 _ rfl) rfl cl_1 (r := 89) (by decide) rfl (h0 9) (tyX1_ok 9 (by decide)) rfl rfl dX1_init_56 ?_
  refine k_aloadn C dX1_init_59 rfl ?_
  refine k_iconst C dX1_init_60 (v := (0 : Int32)) (by decide) ?_
  refine k_putI C hin (T := TX1) (N := 14) (f := 10) rfl (by decide) rfl (tb2 136 _ rfl) rfl cl_1 (r := 89) (by decide) rfl (h0 10) (tyX1_ok 10 (by decide)) rfl rfl dX1_init_61 ?_
  refine k_aloadn C dX1_init_64 rfl ?_
  refine k_iconst C dX1_init_65 (v := (0 : Int32)) (by decide) ?_
  refine k_putI C hin (T := TX1) (N := 14) (f := 11) rfl (by decide) rfl (tb2 137 _ rfl) rfl cl_1 (r := 89) (by decide) rfl (h0 11) (tyX1_ok 11 (by decide)) rfl rfl dX1_init_66 ?_
  refine k_aloadn C dX1_init_69 rfl ?_
  refine k_iconst C dX1_init_70 (v := (0 : Int32)) (by decide) ?_
  refine k_putI C hin (T := TX1) (N := 14) (f := 12) rfl (by decide) rfl (tb2 138 _ rfl) rfl cl_1 (r := 89) (by decide) rfl (h0 12) (tyX1_ok 12 (by decide)) rfl rfl dX1_init_71 ?_
  refine k_aloadn C dX1_init_74 rfl ?_
  refine k_iconst C dX1_init_75 (v := (0 : Int32)) (by decide) ?_
  refine k_putI C hin (T := TX1) (N := 14) (f := 13) rfl (by decide) rfl (tb2 139 _ rfl) rfl cl_1 (r := 89) (by decide) rfl (h0 13) (tyX1_ok 13 (by decide)) rfl rfl dX1_init_76 ?_
  refine k_aloadn C dX1_init_79 rfl ?_
  refine k_aloadn C dX1_init_80 rfl ?_
  refine k_putR C hin (T := TX1) (N := 14) (f := 0) rfl (by decide) (fin := true) rfl (tb2 126 _ rfl) rfl cl_1 (r := 89) (by decide) rfl (r' := 75) (tyX1_ok 0 (by decide)) rfl rfl dX1_init_81 ?_
  refine k_aloadn C dX1_init_84 rfl ?_
  refine k_aloadn C dX1_init_85 rfl ?_
  refine k_putR C hin (T := TX1) (N := 14) (f := 1) rfl (by decide) (fin := true) rfl (tb2 127 _ rfl) rfl cl_1 (r := 89) (by decide) rfl (r' := 58) (tyX1_ok 1 (by decide)) rfl rfl dX1_init_86 ?_
  exact k_ret C dX1_init_89 (Nat.le_of_ble_eq_true rfl) (Nat.le_of_ble_eq_true rfl) rfl rfl
theorem lki_X11_11 : LkIN RX11 11 yX9_init "RopeFerry" cX9_init 1 0 := ⟨tb1 43 _ rfl, tb1 2 _ rfl, List.mem_of_getElem? (i := 0) rfl, tb1 42 _ rfl, ⟨by decide, by decide⟩, rfl, rfl⟩
theorem lki_X11_18 : LkI RX11 18 yX5_init cX5_init 1 0 := ⟨tb1 77 _ rfl, tb1 3 _ rfl, tb1 75 _ rfl, tb1 76 _ rfl, ⟨by decide, by decide⟩, rfl, rfl⟩
theorem lki_X11_31 : LkIN RX11 31 yX0_init "RopeFerry" cX0_init 1 0 := ⟨tb1 157 _ rfl, tb1 5 _ rfl, List.mem_of_getElem? (i := 1) rfl, tb1 156 _ rfl, ⟨by decide, by decide⟩, rfl, rfl⟩
theorem lki_X11_41 : LkIN RX11 41 yX7_init "RopeFerry" cX7_init 1 0 := ⟨tb1 197 _ rfl, tb1 6 _ rfl, List.mem_of_getElem? (i := 2) rfl, tb1 196 _ rfl, ⟨by decide, by decide⟩, rfl, rfl⟩
theorem lki_X11_54 : LkI RX11 54 yX6_init cX6_init 3 2 := ⟨tb1 235 _ rfl, tb1 7 _ rfl, tb1 233 _ rfl, tb1 234 _ rfl, ⟨by decide, by decide⟩, rfl, rfl⟩
theorem lki_X11_63 : LkI RX11 63 yX8_init cX8_init 3 2 := ⟨tb2 8 _ rfl, tb1 8 _ rfl, tb2 6 _ rfl, tb2 7 _ rfl, ⟨by decide, by decide⟩, rfl, rfl⟩
theorem lki_X11_72 : LkI RX11 72 yX2_init cX2_init 3 2 := ⟨tb2 21 _ rfl, tb1 9 _ rfl, tb2 19 _ rfl, tb2 20 _ rfl, ⟨by decide, by decide⟩, rfl, rfl⟩
theorem lki_X11_81 : LkI RX11 81 yX4_init cX4_init 2 1 := ⟨tb2 68 _ rfl, tb1 10 _ rfl, tb2 66 _ rfl, tb2 67 _ rfl, ⟨by decide, by decide⟩, rfl, rfl⟩
theorem lki_X11_90 : LkI RX11 90 yX3_init cX3_init 2 1 := ⟨tb2 108 _ rfl, tb1 11 _ rfl, tb2 106 _ rfl, tb2 107 _ rfl, ⟨by decide, by decide⟩, rfl, rfl⟩
theorem lki_X11_97 : LkI RX11 97 yX1_init cX1_init 3 2 := ⟨tb2 124 _ rfl, tb1 12 _ rfl, tb2 122 _ rfl, tb2 123 _ rfl, ⟨by decide, by decide⟩, rfl, rfl⟩
def cM_rf (M : Mem) : Mem := wr (wr (cM_mk (zap (cM_od (zap (cM_pl (zap (cM_mv (zap (cM_rd (zap (cM_rr (zap (cM_ru 68 (zap (cM_ru 63 (zap (cM_ru 58 (zap (cM_bk 44 (zap (cM_bk 30 (zap (cM_rv 22 (zap (cM_rv 14 (zap (cM_rv 6 (zap (cM_tp (zap (M) 1)) 6)) 14)) 22)) 30)) 44)) 58)) 63)) 68)) 73)) 74)) 75)) 82)) 87)) 89)) 0 15 (0 : Int32)) 0 16 (-1 : Int32)
def cF_rf (fc : Nat → Nat → Nat) : Nat → Nat → Nat := fup (cF_mk (fzap (fup (cF_od (fzap (fup (cF_pl (fzap (fup (cF_mv (fzap (fup (cF_rd (fzap (fup (cF_rr (fzap (fup (cF_ru 68 (fzap (fup (cF_ru 63 (fzap (fup (cF_ru 58 (fzap (fup (cF_bk 44 (fzap (fup (cF_bk 30 (fzap (fup (cF_rv 22 (fzap (fup (cF_rv 14 (fzap (fup (cF_rv 6 (fzap (fup (cF_tp (fzap (fc) fcL 1)) 0 0 (1 + 2)) fcL 6)) 0 1 (6 + 2)) fcL 14)) 0 2 (14 + 2)) fcL 22)) 0 3 (22 + 2)) fcL 30)) 0 4 (30 + 2)) fcL 44)) 0 5 (44 + 2)) fcL 58)) 0 6 (58 + 2)) fcL 63)) 0 7 (63 + 2)) fcL 68)) 0 8 (68 + 2)) fcL 73)) 0 9 (73 + 2)) fcL 74)) 0 10 (74 + 2)) fcL 75)) 0 11 (75 + 2)) fcL 82)) 0 12 (82 + 2)) fcL 87)) 0 13 (87 + 2)) fcL 89)) 0 14 (89 + 2)
set_option maxHeartbeats 4000000 in
set_option maxRecDepth 20000 in
theorem ck_rf {l : Launch} {g : GG} {b : Nat} {fc : Nat → Nat → Nat} {M : Mem} (h0 : ∀ k, fc 0 k = if fcL 0 k = 0 then 0 else 1) : CK l g (kdL, b) (rmk 3 94 18222) yX11_init cX11_init 1 [.ref (b + 0)] fc (1) M (cF_rf fc) (95) (cM_rf M) 94 18222 := by
  refine CK.of rfl (Nat.le_of_ble_eq_true rfl) (catc rfl cat0) rfl (fun z C hin => ?_)
  have C : CxK z l g b (1) (rmk 3 94 18222) cX11_init 1 RX11 none := C
  refine k_wk (L' := [some (.ref (b + 0))]) (And.intro rfl (trivial)) ?_
  refine k_aloadn C dX11_init_0 rfl ?_
  refine k_obj C ⟨tb1 36 _ rfl, tb1 37 _ rfl, tb1 38 _ rfl⟩ ⟨by decide, by decide⟩ (Nat.le_of_ble_eq_true rfl) dX11_init_1 ?_
  refine k_aloadn C dX11_init_4 rfl ?_
  refine k_new C (T := TX9) (N := 7) (ci := 9) rfl cl_9 ⟨tb1 39 _ rfl, tb1 40 _ rfl, tb1 2 _ rfl⟩ rfl (fn := fcL) (ndef tyX9_ok (by decide +kernel)) ⟨by decide, by decide⟩ dX11_init_5 ?_
  refine k_dup C dX11_init_8 rfl ?_
  refine k_initN (st := [.ref (b + 1), .ref (b + 0)]) C (ck_tp  (fun k => if_pos rfl)) lki_X11_11 rfl rfl (Nat.le_of_ble_eq_true rfl) ⟨by decide, by decide⟩ ⟨by decide, by decide⟩ dX11_init_9 ?_
  refine k_putR C hin (T := TX11) (N := 17) (f := 0) rfl (by decide) (fin := true) rfl (tb2 169 _ rfl) rfl cl_10 (r := 0) (by decide) rfl (r' := 1) (tyX11_ok 0 (by decide)) rfl rfl dX11_init_12 ?_
  refine k_aloadn C dX11_init_15 rfl ?_
  refine k_new C (T := TX5) (N := 15) (ci := 5) rfl cl_5 ⟨tb1 73 _ rfl, tb1 74 _ rfl, tb1 3 _ rfl⟩ rfl (fn := fcL) (ndef tyX5_ok (by decide +kernel)) ⟨by decide, by decide⟩ dX11_init_16 ?_
  refine k_dup C dX11_init_19 rfl ?_
  refine k_init (st := [.ref (b + 6), .ref (b + 0)]) C (ck_rv (Or.inl rfl) (fun k => if_pos rfl)) lki_X11_18 rfl rfl (Nat.le_of_ble_eq_true rfl) ⟨by decide, by decide⟩ ⟨by decide, by decide⟩ dX11_init_20 ?_
  refine k_putR C hin (T := TX11) (N := 17) (f := 1) rfl (by decide) (fin := true) rfl (tb2 170 _ rfl) rfl cl_10 (r := 0) (by decide) rfl (r' := 6) (tyX11_ok 1 (by decide)) rfl rfl dX11_init_23 ?_
  refine k_aloadn C dX11_init_26 rfl ?_
  refine k_new C (T := TX5) (N := 15) (ci := 5) rfl cl_5 ⟨tb1 73 _ rfl, tb1 74 _ rfl, tb1 3 _ rfl⟩ rfl (fn := fcL) (ndef tyX5_ok (by decide +kernel)) ⟨by decide, by decide⟩ dX11_init_27 ?_
  refine k_dup C dX11_init_30 rfl ?_
  refine k_init (st := [.ref (b + 14), .ref (b + 0)]) C (ck_rv (Or.inr (Or.inl rfl)) (fun k => if_pos rfl)) lki_X11_18 rfl rfl (Nat.le_of_ble_eq_true rfl) ⟨by decide, by decide⟩ ⟨by decide, by decide⟩ dX11_init_31 ?_
  refine k_putR C hin (T := TX11) (N := 17) (f := 2) rfl (by decide) (fin := true) rfl (tb2 171 _ rfl) rfl cl_10 (r := 0) (by decide) rfl (r' := 14) (tyX11_ok 2 (by decide)) rfl rfl dX11_init_34 ?_
  refine k_aloadn C dX11_init_37 rfl ?_
  refine k_new C (T := TX5) (N := 15) (ci := 5) rfl cl_5 ⟨tb1 73 _ rfl, tb1 74 _ rfl, tb1 3 _ rfl⟩ rfl (fn := fcL) (ndef tyX5_ok (by decide +kernel)) ⟨by decide, by decide⟩ dX11_init_38 ?_
  refine k_dup C dX11_init_41 rfl ?_
  refine k_init (st := [.ref (b + 22), .ref (b + 0)]) C (ck_rv (Or.inr (Or.inr rfl)) (fun k => if_pos rfl)) lki_X11_18 rfl rfl (Nat.le_of_ble_eq_true rfl) ⟨by decide, by decide⟩ ⟨by decide, by decide⟩ dX11_init_42 ?_
  refine k_putR C hin (T := TX11) (N := 17) (f := 3) rfl (by decide) (fin := true) rfl (tb2 172 _ rfl) rfl cl_10 (r := 0) (by decide) rfl (r' := 22) (tyX11_ok 3 (by decide)) rfl rfl dX11_init_45 ?_
  refine k_aloadn C dX11_init_48 rfl ?_
  refine k_new C (T := TX0) (N := 8) (ci := 0) rfl cl_0 ⟨tb1 153 _ rfl, tb1 154 _ rfl, tb1 5 _ rfl⟩ rfl (fn := fcL) (ndef tyX0_ok (by decide +kernel)) ⟨by decide, by decide⟩ dX11_init_49 ?_
  refine k_dup C dX11_init_52 rfl ?_
  refine k_initN (st := [.ref (b + 30), .ref (b + 0)]) C (ck_bk (Or.inl rfl) (fun k => if_pos rfl)) lki_X11_31 rfl rfl (Nat.le_of_ble_eq_true rfl) ⟨by decide, by decide⟩ ⟨by decide, by decide⟩ dX11_init_53 ?_
  refine k_putR C hin (T := TX11) (N := 17) (f := 4) rfl (by decide) (fin := true) rfl (tb2 173 _ rfl) rfl cl_10 (r := 0) (by decide) rfl (r' := 30) (tyX11_ok 4 (by decide)) rfl rfl dX11_init_56 ?_
  refine k_aloadn C dX11_init_59 rfl ?_
  refine k_new C (T := TX0) (N := 8) (ci := 0) rfl cl_0 ⟨tb1 153 _ rfl, tb1 154 _ rfl, tb1 5 _ rfl⟩ rfl (fn := fcL) (ndef tyX0_ok (by decide +kernel)) ⟨by decide, by decide⟩ dX11_init_60 ?_
  refine k_dup C dX11_init_63 rfl ?_
  refine k_initN (st := [.ref (b + 44), .ref (b + 0)]) C (ck_bk (Or.inr rfl) (fun k => if_pos rfl)) lki_X11_31 rfl rfl (Nat.le_of_ble_eq_true rfl) ⟨by decide, by decide⟩ ⟨by decide, by decide⟩ dX11_init_64 ?_
  refine k_putR C hin (T := TX11) (N := 17) (f := 5) rfl (by decide) (fin := true) rfl (tb2 174 _ rfl) rfl cl_10 (r := 0) (by decide) rfl (r' := 44) (tyX11_ok 5 (by decide)) rfl rfl dX11_init_67 ?_
  refine k_aloadn C dX11_init_70 rfl ?_
  refine k_new C (T := TX7) (N := 10) (ci := 7) rfl cl_7 ⟨tb1 193 _ rfl, tb1 194 _ rfl, tb1 6 _ rfl⟩ rfl (fn := fcL) (ndef tyX7_ok (by decide +kernel)) ⟨by decide, by decide⟩ dX11_init_71 ?_
  refine k_dup C dX11_init_74 rfl ?_
  refine k_initN (st := [.ref (b + 58), .ref (b + 0)]) C (ck_ru (Or.inl rfl) (fun k => if_pos rfl)) lki_X11_41 rfl rfl (Nat.le_of_ble_eq_true rfl) ⟨by decide, by decide⟩ ⟨by decide, by decide⟩ dX11_init_75 ?_
  refine k_putR C hin (T := TX11) (N := 17) (f := 6) rfl (by decide) (fin := true) rfl (tb2 175 _ rfl) rfl cl_10 (r := 0) (by decide) rfl (r' := 58) (tyX11_ok 6 (by decide)) rfl rfl dX11_init_78 ?_
  refine k_aloadn C dX11_init_81 rfl ?_
  refine k_new C (T := TX7) (N := 10) (ci := 7) rfl cl_7 ⟨tb1 193 _ rfl, tb1 194 _ rfl, tb1 6 _ rfl⟩ rfl (fn := fcL) (ndef tyX7_ok (by decide +kernel)) ⟨by decide, by decide⟩ dX11_init_82 ?_
  refine k_dup C dX11_init_85 rfl ?_
  refine k_initN (st := [.ref (b + 63), .ref (b + 0)]) C (ck_ru (Or.inr (Or.inl rfl)) (fun k => if_pos rfl)) lki_X11_41 rfl rfl (Nat.le_of_ble_eq_true rfl) ⟨by decide, by decide⟩ ⟨by decide, by decide⟩ dX11_init_86 ?_
  refine k_putR C hin (T := TX11) (N := 17) (f := 7) rfl (by decide) (fin := true) rfl (tb2 176 _ rfl) rfl cl_10 (r := 0) (by decide) rfl (r' := 63) (tyX11_ok 7 (by decide)) rfl rfl dX11_init_89 ?_
  refine k_aloadn C dX11_init_92 rfl ?_
  refine k_new C (T := TX7) (N := 10) (ci := 7) rfl cl_7 ⟨tb1 193 _ rfl, tb1 194 _ rfl, tb1 6 _ rfl⟩ rfl (fn := fcL) (ndef tyX7_ok (by decide +kernel)) ⟨by decide, by decide⟩ dX11_init_93 ?_
  refine k_dup C dX11_init_96 rfl ?_
  refine k_initN (st := [.ref (b + 68), .ref (b + 0)]) C (ck_ru (Or.inr (Or.inr rfl)) (fun k => if_pos rfl)) lki_X11_41 rfl rfl (Nat.le_of_ble_eq_true rfl) ⟨by decide, by decide⟩ ⟨by decide, by decide⟩ dX11_init_97 ?_
  refine k_putR C hin (T := TX11) (N := 17) (f := 8) rfl (by decide) (fin := true) rfl (tb2 177 _ rfl) rfl cl_10 (r := 0) (by decide) rfl (r' := 68) (tyX11_ok 8 (by decide)) rfl rfl dX11_init_100 ?_
  refine k_aloadn C dX11_init_103 rfl ?_
  refine k_new C (T := TX6) (N := 2) (ci := 6) rfl cl_6 ⟨tb1 231 _ rfl, tb1 232 _ rfl, tb1 7 _ rfl⟩ rfl (fn := fcL) (ndef tyX6_ok (by decide +kernel)) ⟨by decide, by decide⟩ dX11_init_104 ?_
  refine k_dup C dX11_init_107 rfl ?_
  refine k_aloadn C dX11_init_108 rfl ?_
  refine k_getR C fl_X11_12 cl_10 (1) (r := 0) (by decide) rfl rfl dX11_init_109 ?_
  refine k_aloadn C dX11_init_112 rfl ?_
  refine k_getR C fl_X11_23 cl_10 (14) (r := 0) (by decide) rfl rfl dX11_init_113 ?_
  refine k_init (st := [.ref (b + 73), .ref (b + 0)]) C (ck_rr  (fun k => if_pos rfl)) lki_X11_54 rfl rfl (Nat.le_of_ble_eq_true rfl) ⟨by decide, by decide⟩ ⟨by decide, by decide⟩ dX11_init_116 ?_
  refine k_putR C hin (T := TX11) (N := 17) (f := 9) rfl (by decide) (fin := true) rfl (tb2 178 _ rfl) rfl cl_10 (r := 0) (by decide) rfl (r' := 73) (tyX11_ok 9 (by decide)) rfl rfl dX11_init_119 ?_
  refine k_aloadn C dX11_init_122 rfl ?_
  refine k_new C (T := TX8) (N := 2) (ci := 8) rfl cl_8 ⟨tb2 4 _ rfl, tb2 5 _ rfl, tb1 8 _ rfl⟩ rfl (fn := fcL) (ndef tyX8_ok (by decide +kernel)) ⟨by decide, by decide⟩ dX11_init_123 ?_
  refine k_dup C dX11_init_126 rfl ?_
  refine k_aloadn C dX11_init_127 rfl ?_
  refine k_getR C fl_X11_12 cl_10 (1) (r := 0) (by decide) rfl rfl dX11_init_128 ?_
  refine k_aloadn C dX11_init_131 rfl ?_
  refine k_getR C fl_X11_46 cl_10 (63) (r := 0) (by decide) rfl rfl dX11_init_132 ?_
  refine k_init (st := [.ref (b + 74), .ref (b + 0)]) C (ck_rd  (fun k => if_pos rfl)) lki_X11_63 rfl rfl (Nat.le_of_ble_eq_true rfl) ⟨by decide, by decide⟩ ⟨by decide, by decide⟩ dX11_init_135 ?_
  refine k_putR C hin (T := TX11) (N := 17) (f := 10) rfl (by decide) (fin := true) rfl (tb2 179 _ rfl) rfl cl_10 (r := 0) (by decide) rfl (r' := 74) (tyX11_ok 10 (by decide)) rfl rfl dX11_init_138 ?_
  refine k_aloadn C dX11_init_141 rfl ?_
  refine k_new C (T := TX2) (N := 11) (ci := 2) rfl cl_2 ⟨tb2 17 _ rfl, tb2 18 _ rfl, tb1 9 _ rfl⟩ rfl (fn := fcL) (ndef tyX2_ok (by decide +kernel)) ⟨by decide, by decide⟩ dX11_init_142 ?_
  refine k_dup C dX11_init_145 rfl ?_
  refine k_aloadn C dX11_init_146 rfl ?_
  refine k_getR C fl_X11_19 cl_10 (6) (r := 0) (by decide) rfl rfl dX11_init_147 ?_
  refine k_aloadn C dX11_init_150 rfl ?_
  refine k_getR C fl_X11_32 cl_10 (30) (r := 0) (by decide) rfl rfl dX11_init_151 ?_
  refine k_init (st := [.ref (b + 75), .ref (b + 0)]) C (ck_mv  (fun k => if_pos rfl)) lki_X11_72 rfl rfl (Nat.le_of_ble_eq_true rfl) ⟨by decide, by decide⟩ ⟨by decide, by decide⟩ dX11_init_154 ?_
  refine k_putR C hin (T := TX11) (N := 17) (f := 11) rfl (by decide) (fin := true) rfl (tb2 180 _ rfl) rfl cl_10 (r := 0) (by decide) rfl (r' := 75) (tyX11_ok 11 (by decide)) rfl rfl dX11_init_157 ?_
  refine k_aloadn C dX11_init_160 rfl ?_
  refine k_new C (T := TX4) (N := 11) (ci := 4) rfl cl_4 ⟨tb2 64 _ rfl, tb2 65 _ rfl, tb1 10 _ rfl⟩ rfl (fn := fcL) (ndef tyX4_ok (by decide +kernel)) ⟨by decide, by decide⟩ dX11_init_161 ?_
  refine k_dup C dX11_init_164 rfl ?_
  refine k_aloadn C dX11_init_165 rfl ?_
  refine k_getR C fl_X11_75 cl_10 (75) (r := 0) (by decide) rfl rfl dX11_init_166 ?_
  refine k_init (st := [.ref (b + 82), .ref (b + 0)]) C (ck_pl  (fun k => if_pos rfl)) lki_X11_81 rfl rfl (Nat.le_of_ble_eq_true rfl) ⟨by decide, by decide⟩ ⟨by decide, by decide⟩ dX11_init_169 ?_
  refine k_putR C hin (T := TX11) (N := 17) (f := 12) rfl (by decide) (fin := true) rfl (tb2 181 _ rfl) rfl cl_10 (r := 0) (by decide) rfl (r' := 82) (tyX11_ok 12 (by decide)) rfl rfl dX11_init_172 ?_
  refine k_aloadn C dX11_init_175 rfl ?_
  refine k_new C (T := TX3) (N := 3) (ci := 3) rfl cl_3 ⟨tb2 104 _ rfl, tb2 105 _ rfl, tb1 11 _ rfl⟩ rfl (fn := fcL) (ndef tyX3_ok (by decide +kernel)) ⟨by decide, by decide⟩ dX11_init_176 ?_
  refine k_dup C dX11_init_179 rfl ?_
  refine k_aloadn C dX11_init_180 rfl ?_
  refine k_getR C fl_X11_75 cl_10 (75) (r := 0) (by decide) rfl rfl dX11_init_181 ?_
  refine k_init (st := [.ref (b + 87), .ref (b + 0)]) C (ck_od  (fun k => if_pos rfl)) lki_X11_90 rfl rfl (Nat.le_of_ble_eq_true rfl) ⟨by decide, by decide⟩ ⟨by decide, by decide⟩ dX11_init_184 ?_
  refine k_putR C hin (T := TX11) (N := 17) (f := 13) rfl (by decide) (fin := true) rfl (tb2 182 _ rfl) rfl cl_10 (r := 0) (by decide) rfl (r' := 87) (tyX11_ok 13 (by decide)) rfl rfl dX11_init_187 ?_
  refine k_aloadn C dX11_init_190 rfl ?_
  refine k_new C (T := TX1) (N := 14) (ci := 1) rfl cl_1 ⟨tb2 120 _ rfl, tb2 121 _ rfl, tb1 12 _ rfl⟩ rfl (fn := fcL) (ndef tyX1_ok (by decide +kernel)) ⟨by decide, by decide⟩ dX11_init_191 ?_
  refine k_dup C dX11_init_194 rfl ?_
  refine k_aloadn C dX11_init_195 rfl ?_
  refine k_getR C fl_X11_75 cl_10 (75) (r := 0) (by decide) rfl rfl dX11_init_196 ?_
  refine k_aloadn C dX11_init_199 rfl ?_
  refine k_getR C fl_X11_42 cl_10 (58) (r := 0) (by decide) rfl rfl dX11_init_200 ?_
  refine k_init (st := [.ref (b + 89), .ref (b + 0)]) C (ck_mk  (fun k => if_pos rfl)) lki_X11_97 rfl rfl (Nat.le_of_ble_eq_true rfl) ⟨by decide, by decide⟩ ⟨by decide, by decide⟩ dX11_init_203 ?_
  refine k_putR C hin (T := TX11) (N := 17) (f := 14) rfl (by decide) (fin := true) rfl (tb2 183 _ rfl) rfl cl_10 (r := 0) (by decide) rfl (r' := 89) (tyX11_ok 14 (by decide)) rfl rfl dX11_init_206 ?_
  refine k_aloadn C dX11_init_209 rfl ?_
  refine k_iconst C dX11_init_210 (v := (0 : Int32)) (by decide) ?_
  refine k_putI C hin (T := TX11) (N := 17) (f := 15) rfl (by decide) rfl (tb2 184 _ rfl) rfl cl_10 (r := 0) (by decide) rfl (h0 15) (tyX11_ok 15 (by decide)) rfl rfl dX11_init_211 ?_
  refine k_aloadn C dX11_init_214 rfl ?_
  refine k_iconst C dX11_init_215 (v := (-1 : Int32)) (by decide) ?_
  refine k_putI C hin (T := TX11) (N := 17) (f := 16) rfl (by decide) rfl (tb2 185 _ rfl) rfl cl_10 (r := 0) (by decide) rfl (h0 16) (tyX11_ok 16 (by decide)) rfl rfl dX11_init_216 ?_
  exact k_ret C dX11_init_219 (Nat.le_of_ble_eq_true rfl) (Nat.le_of_ble_eq_true rfl) rfl rfl
def cM_md (M : Mem) : Mem := loopS 0 (wr (wr (wr (wr (zap (zap (zap (zap (zap (zap (zap (zap (zap (zap (zap (wr (zap (zap (zap (zap (M) 96) 97) 98) 99) 95 10 (-1 : Int32)) 100) 101) 102) 103) 104) 105) 106) 107) 108) 109) 110) 96 5 (200 : Int32)) 96 6 (20 : Int32)) 96 7 (10 : Int32)) 96 8 (-1 : Int32))
def cF_md (fc : Nat → Nat → Nat) : Nat → Nat → Nat := fup (fzap (fup (fzap (fup (fzap (fup (fzap (fup (fzap (fup (fzap (fup (fzap (fup (fzap (fup (fzap (fup (fzap (fup (fzap (fup (fzap (fup (fzap (fup (fzap (fup (fzap (fc) fcL 96) 95 1 (96 + 2)) fcL 97) 95 2 (97 + 2)) fcL 98) 95 4 (98 + 2)) fcL 99) 95 5 (99 + 2)) fcL 100) 95 12 (100 + 2)) fcL 101) 95 14 (101 + 2)) fcL 102) 95 15 (102 + 2)) fcL 103) 95 16 (103 + 2)) fcL 104) 95 18 (104 + 2)) fcL 105) 95 19 (105 + 2)) fcL 106) 95 20 (106 + 2)) fcL 107) 95 23 (107 + 2)) fcL 108) 95 24 (108 + 2)) fcL 109) 95 25 (109 + 2)) fcL 110) 95 26 (110 + 2)
set_option maxHeartbeats 4000000 in
set_option maxRecDepth 20000 in
theorem ck_md {l : Launch} {g : GG} {b : Nat} {fc : Nat → Nat → Nat} {M : Mem} (h0 : ∀ k, fc 95 k = if fcL 95 k = 0 then 0 else 1) : CK l g (kdL, b) (rmk 1 15 8243) yX12_init cX12_init 2 [.ref (b + 95)] fc (96) M (cF_md fc) (111) (cM_md M) 15 8243 := by
  refine CK.of rfl (Nat.le_of_ble_eq_true rfl) (catc rfl cat0) rfl (fun z C hin => ?_)
  have C : CxK z l g b (96) (rmk 1 15 8243) cX12_init 2 RX12 none := C
  refine k_wk (L' := [some (.ref (b + 95)), none]) (And.intro rfl (trivial)) ?_
  refine k_aloadn C dX12_init_0 rfl ?_
  refine k_obj C ⟨tb6 106 _ rfl, tb1 37 _ rfl, tb1 38 _ rfl⟩ ⟨by decide, by decide⟩ (Nat.le_of_ble_eq_true rfl) dX12_init_1 ?_
  refine k_aloadn C dX12_init_4 rfl ?_
  refine k_sipush C dX12_init_5 (v := (648 : Int32)) (by decide) ?_
  refine k_newa C (t := 1) (s := 648) (Or.inl ⟨rfl, rfl⟩) (tb1 72 _ rfl) rfl (by decide) (by decide) (by decide) ⟨by decide, by decide⟩ (fn := fcL) dX12_init_8 ?_
  refine k_putR C hin (T := TX12) (N := 28) (f := 1) rfl (by decide) (fin := true) rfl (tb6 108 _ rfl) rfl cl_11 (r := 95) (by decide) rfl (r' := 96) (tyX12_ok 1 (by decide)) rfl rfl dX12_init_10 ?_
  refine k_aloadn C dX12_init_13 rfl ?_
  refine k_sipush C dX12_init_14 (v := (648 : Int32)) (by decide) ?_
  refine k_newa C (t := 1) (s := 648) (Or.inl ⟨rfl, rfl⟩) (tb1 72 _ rfl) rfl (by decide) (by decide) (by decide) ⟨by decide, by decide⟩ (fn := fcL) dX12_init_17 ?_
  refine k_putR C hin (T := TX12) (N := 28) (f := 2) rfl (by decide) (fin := true) rfl (tb6 109 _ rfl) rfl cl_11 (r := 95) (by decide) rfl (r' := 97) (tyX12_ok 2 (by decide)) rfl rfl dX12_init_19 ?_
  refine k_aloadn C dX12_init_22 rfl ?_
  refine k_sipush C dX12_init_23 (v := (248 : Int32)) (by decide) ?_
  refine k_newa C (t := 1) (s := 248) (Or.inl ⟨rfl, rfl⟩) (tb1 72 _ rfl) rfl (by decide) (by decide) (by decide) ⟨by decide, by decide⟩ (fn := fcL) dX12_init_26 ?_
  refine k_putR C hin (T := TX12) (N := 28) (f := 4) rfl (by decide) (fin := true) rfl (tb6 111 _ rfl) rfl cl_11 (r := 95) (by decide) rfl (r' := 98) (tyX12_ok 4 (by decide)) rfl rfl dX12_init_28 ?_
  refine k_aloadn C dX12_init_31 rfl ?_
  refine k_sipush C dX12_init_32 (v := (400 : Int32)) (by decide) ?_
  refine k_newa C (t := 1) (s := 400) (Or.inl ⟨rfl, rfl⟩) (tb1 72 _ rfl) rfl (by decide) (by decide) (by decide) ⟨by decide, by decide⟩ (fn := fcL) dX12_init_35 ?_
  refine k_putR C hin (T := TX12) (N := 28) (f := 5) rfl (by decide) (fin := true) rfl (tb6 112 _ rfl) rfl cl_11 (r := 95) (by decide) rfl (r' := 99) (tyX12_ok 5 (by decide)) rfl rfl dX12_init_37 ?_
  refine k_aloadn C dX12_init_40 rfl ?_
  refine k_iconst C dX12_init_41 (v := (-1 : Int32)) (by decide) ?_
  refine k_putI C hin (T := TX12) (N := 28) (f := 10) rfl (by decide) rfl (tb6 117 _ rfl) rfl cl_11 (r := 95) (by decide) rfl (h0 10) (tyX12_ok 10 (by decide)) rfl rfl dX12_init_42 ?_
  refine k_aloadn C dX12_init_45 rfl ?_
  refine k_iconst C dX12_init_46 (v := (4 : Int32)) (by decide) ?_
  refine k_newa C (t := 1) (s := 4) (Or.inl ⟨rfl, rfl⟩) (tb1 72 _ rfl) rfl (by decide) (by decide) (by decide) ⟨by decide, by decide⟩ (fn := fcL) dX12_init_47 ?_
  refine k_putR C hin (T := TX12) (N := 28) (f := 12) rfl (by decide) (fin := true) rfl (tb6 119 _ rfl) rfl cl_11 (r := 95) (by decide) rfl (r' := 100) (tyX12_ok 12 (by decide)) rfl rfl dX12_init_49 ?_
  refine k_aloadn C dX12_init_52 rfl ?_
  refine k_sipush C dX12_init_53 (v := (2048 : Int32)) (by decide) ?_
  refine k_newa C (t := 1) (s := 2048) (Or.inl ⟨rfl, rfl⟩) (tb1 72 _ rfl) rfl (by decide) (by decide) (by decide) ⟨by decide, by decide⟩ (fn := fcL) dX12_init_56 ?_
  refine k_putR C hin (T := TX12) (N := 28) (f := 14) rfl (by decide) (fin := true) rfl (tb6 121 _ rfl) rfl cl_11 (r := 95) (by decide) rfl (r' := 101) (tyX12_ok 14 (by decide)) rfl rfl dX12_init_58 ?_
  refine k_aloadn C dX12_init_61 rfl ?_
  refine k_sipush C dX12_init_62 (v := (2048 : Int32)) (by decide) ?_
  refine k_newa C (t := 1) (s := 2048) (Or.inl ⟨rfl, rfl⟩) (tb1 72 _ rfl) rfl (by decide) (by decide) (by decide) ⟨by decide, by decide⟩ (fn := fcL) dX12_init_65 ?_
  refine k_putR C hin (T := TX12) (N := 28) (f := 15) rfl (by decide) (fin := true) rfl (tb6 122 _ rfl) rfl cl_11 (r := 95) (by decide) rfl (r' := 102) (tyX12_ok 15 (by decide)) rfl rfl dX12_init_67 ?_
  refine k_aloadn C dX12_init_70 rfl ?_
  refine k_sipush C dX12_init_71 (v := (2048 : Int32)) (by decide) ?_
  refine k_newa C (t := 1) (s := 2048) (Or.inl ⟨rfl, rfl⟩) (tb1 72 _ rfl) rfl (by decide) (by decide) (by decide) ⟨by decide, by decide⟩ (fn := fcL) dX12_init_74 ?_
  refine k_putR C hin (T := TX12) (N := 28) (f := 16) rfl (by decide) (fin := true) rfl (tb6 123 _ rfl) rfl cl_11 (r := 95) (by decide) rfl (r' := 103) (tyX12_ok 16 (by decide)) rfl rfl dX12_init_76 ?_
  refine k_aloadn C dX12_init_79 rfl ?_
  refine k_bipush C dX12_init_80 (v := (6 : Int32)) (by decide) ?_
  refine k_newa C (t := 1) (s := 6) (Or.inl ⟨rfl, rfl⟩) (tb1 72 _ rfl) rfl (by decide) (by decide) (by decide) ⟨by decide, by decide⟩ (fn := fcL) dX12_init_82 ?_
  refine k_putR C hin (T := TX12) (N := 28) (f := 18) rfl (by decide) (fin := true) rfl (tb6 125 _ rfl) rfl cl_11 (r := 95) (by decide) rfl (r' := 104) (tyX12_ok 18 (by decide)) rfl rfl dX12_init_84 ?_
  refine k_aloadn C dX12_init_87 rfl ?_
  refine k_bipush C dX12_init_88 (v := (6 : Int32)) (by decide) ?_
  refine k_newa C (t := 1) (s := 6) (Or.inl ⟨rfl, rfl⟩) (tb1 72 _ rfl) rfl (by decide) (by decide) (by decide) ⟨by decide, by decide⟩ (fn := fcL) dX12_init_90 ?_
  refine k_putR C hin (T := TX12) (N := 28) (f := 19) rfl (by decide) (fin := true) rfl (tb6 126 _ rfl) rfl cl_11 (r := 95) (by decide) rfl (r' := 105) (tyX12_ok 19 (by decide)) rfl rfl dX12_init_92 ?_
  refine k_aloadn C dX12_init_95 rfl ?_
  refine k_bipush C dX12_init_96 (v := (6 : Int32)) (by decide) ?_
  refine k_newa C (t := 1) (s := 6) (Or.inl ⟨rfl, rfl⟩) (tb1 72 _ rfl) rfl (by decide) (by decide) (by decide) ⟨by decide, by decide⟩ (fn := fcL) dX12_init_98 ?_
  refine k_putR C hin (T := TX12) (N := 28) (f := 20) rfl (by decide) (fin := true) rfl (tb6 127 _ rfl) rfl cl_11 (r := 95) (by decide) rfl (r' := 106) (tyX12_ok 20 (by decide)) rfl rfl dX12_init_100 ?_
  refine k_aloadn C dX12_init_103 rfl ?_
  refine k_bipush C dX12_init_104 (v := (10 : Int32)) (by decide) ?_
  refine k_newa C (t := 1) (s := 10) (Or.inl ⟨rfl, rfl⟩) (tb1 72 _ rfl) rfl (by decide) (by decide) (by decide) ⟨by decide, by decide⟩ (fn := fcL) dX12_init_106 ?_
  refine k_putR C hin (T := TX12) (N := 28) (f := 23) rfl (by decide) (fin := true) rfl (tb6 130 _ rfl) rfl cl_11 (r := 95) (by decide) rfl (r' := 107) (tyX12_ok 23 (by decide)) rfl rfl dX12_init_108 ?_
  refine k_aloadn C dX12_init_111 rfl ?_
  refine k_bipush C dX12_init_112 (v := (41 : Int32)) (by decide) ?_
  refine k_newa C (t := 1) (s := 41) (Or.inl ⟨rfl, rfl⟩) (tb1 72 _ rfl) rfl (by decide) (by decide) (by decide) ⟨by decide, by decide⟩ (fn := fcL) dX12_init_114 ?_
  refine k_putR C hin (T := TX12) (N := 28) (f := 24) rfl (by decide) (fin := true) rfl (tb6 131 _ rfl) rfl cl_11 (r := 95) (by decide) rfl (r' := 108) (tyX12_ok 24 (by decide)) rfl rfl dX12_init_116 ?_
  refine k_aloadn C dX12_init_119 rfl ?_
  refine k_bipush C dX12_init_120 (v := (41 : Int32)) (by decide) ?_
  refine k_newa C (t := 1) (s := 41) (Or.inl ⟨rfl, rfl⟩) (tb1 72 _ rfl) rfl (by decide) (by decide) (by decide) ⟨by decide, by decide⟩ (fn := fcL) dX12_init_122 ?_
  refine k_putR C hin (T := TX12) (N := 28) (f := 25) rfl (by decide) (fin := true) rfl (tb6 132 _ rfl) rfl cl_11 (r := 95) (by decide) rfl (r' := 109) (tyX12_ok 25 (by decide)) rfl rfl dX12_init_124 ?_
  refine k_aloadn C dX12_init_127 rfl ?_
  refine k_bipush C dX12_init_128 (v := (41 : Int32)) (by decide) ?_
  refine k_newa C (t := 1) (s := 41) (Or.inl ⟨rfl, rfl⟩) (tb1 72 _ rfl) rfl (by decide) (by decide) (by decide) ⟨by decide, by decide⟩ (fn := fcL) dX12_init_130 ?_
  refine k_putR C hin (T := TX12) (N := 28) (f := 26) rfl (by decide) (fin := true) rfl (tb6 133 _ rfl) rfl cl_11 (r := 95) (by decide) rfl (r' := 110) (tyX12_ok 26 (by decide)) rfl rfl dX12_init_132 ?_
  refine k_aloadn C dX12_init_135 rfl ?_
  refine k_getR C fl_X12_7 cl_11 (96) (r := 95) (by decide) rfl rfl dX12_init_136 ?_
  refine k_iconst C dX12_init_139 (v := (5 : Int32)) (by decide) ?_
  refine k_sipush C dX12_init_140 (v := (200 : Int32)) (by decide) ?_
  refine k_iast C (r := 96) (by decide) rfl (by decide) (j := 5) (by decide) dX12_init_143 ?_
  refine k_aloadn C dX12_init_144 rfl ?_
  refine k_getR C fl_X12_7 cl_11 (96) (r := 95) (by decide) rfl rfl dX12_init_145 ?_
  refine k_bipush C dX12_init_148 (v := (6 : Int32)) (by decide) ?_
  refine k_bipush C dX12_init_150 (v := (20 : Int32)) (by decide) ?_
  refine k_iast C (r := 96) (by decide) rfl (by decide) (j := 6) (by decide) dX12_init_152 ?_
  refine k_aloadn C dX12_init_153 rfl ?_
  refine k_getR C fl_X12_7 cl_11 (96) (r := 95) (by decide) rfl rfl dX12_init_154 ?_
  refine k_bipush C dX12_init_157 (v := (7 : Int32)) (by decide) ?_
  refine k_bipush C dX12_init_159 (v := (10 : Int32)) (by decide) ?_
  refine k_iast C (r := 96) (by decide) rfl (by decide) (j := 7) (by decide) dX12_init_161 ?_
  refine k_aloadn C dX12_init_162 rfl ?_
  refine k_getR C fl_X12_7 cl_11 (96) (r := 95) (by decide) rfl rfl dX12_init_163 ?_
  refine k_bipush C dX12_init_166 (v := (8 : Int32)) (by decide) ?_
  refine k_iconst C dX12_init_168 (v := (-1 : Int32)) (by decide) ?_
  refine k_iast C (r := 96) (by decide) rfl (by decide) (j := 8) (by decide) dX12_init_169 ?_
  refine k_iconst C dX12_init_170 (v := (0 : Int32)) (by decide) ?_
  refine k_istoren C dX12_init_171 (L' := [some (.ref (b + 95)), some (.int (0 : Int32))]) (ltb rfl) rfl ?_
  refine k_wk (L' := [some (.ref (b + 95)), some (.int (Int32.ofNat 0))]) (And.intro rfl (And.intro rfl trivial)) (w_cm_loop C rfl 24 0 rfl _ ?_)
  exact k_ret C dX12_init_194 (Nat.le_of_ble_eq_true rfl) (Nat.le_of_ble_eq_true rfl) rfl rfl
