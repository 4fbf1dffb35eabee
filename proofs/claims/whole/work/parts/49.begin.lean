/-! the law's beginning: both made, the array for the answer -/
section Rows
variable {z : ZT} {l : Launch} {g : GG} {q : KW} {R : Room} {cc : ByteArray} {nL : Nat} {own : String} {ret : Option FieldType} {Q : State → Prop} {k m pc n n0 : Nat} {L L' : List (Option Value)} {st : List Value} {M : Mem} {fc : Nat → Nat → Nat}
theorem k_newl (C : CxK z l g q.2 n0 R cc nL own ret) {s : Nat} {v : Int32} (hw : Cond.arrayClass (newarray.typeOf .long) ∈ lw_tbl) (hk : q.1 n = (3, s)) (hv0 : ¬ v < 0) (hv : v.toNatClampNeg = s) (hb : s * 8 ≤ 536870912) (hR : k + 1 ≤ R.cells ∧ m + s ≤ R.slots) {fn : Nat → Nat → Nat} (d : decode cc pc = .ok (.newarray .long, 2))
    (kk : XK z g q nL Q (k + 1) (m + s) (pc + 2) L (.ref (q.2 + n) :: st) (fzap fc fn n) (n + 1) (zap M n)) : XK z g q nL Q k m pc L (.int v :: st) fc n M := by
  intro H locs ls hl hP hz hS
  have hRz := C.2.2.2.2.2.2.2.2.2.2.1
  have hK := C.2.2.2.2.2.2.2.1.1.1
  refine va_newaK C.1 C.2.1 (k_hts C hw rfl) rfl d rfl hv0 hv (Nat.le_trans (Nat.mul_le_mul_left s (show componentBytes .long ≤ 8 by decide)) hb) (by rw [hRz]; exact hR.1) (by rw [hRz]; exact hR.2) hz fun H1 cA e1 z1 o1 _ hNm => ?_
  have hcA : cA = g.2.1 3 := Option.some.inj (hNm.symm.trans (hK.2 3 _ rfl).2)
  subst hcA
  rw [← hz] at o1
  exact kk H1 locs ls hl (push_P hP hz o1 (e := .inl (g.2.1 3, s, .inr (.inl (fun _ => 0)))) (show va_at g.1 vwCl (q.2 + n, .inl (g.2.1 3, s, .inr (.inl (fun _ => 0)))) H1 from e1) (kw_push hk (by show _ = (Sum.inl (g.2.1 3, s, .inr (.inl (fun i => (zap M n n i).toInt64))) : va_E); rw [zap_self]; rfl) zap_hf)) (z1.trans (by omega)) (AK_put hS (by omega) o1)
end Rows
theorem lki_L_57 : LkI RL 57 yX11_init cX11_init 1 0 := ⟨tb1 35 _ rfl, tb1 1 _ rfl, tb1 33 _ rfl, tb1 34 _ rfl, ⟨by decide, by decide⟩, rfl, rfl⟩
theorem lki_L_60 : LkI RL 60 yX12_init cX12_init 2 0 := ⟨tb6 105 _ rfl, tb1 13 _ rfl, tb6 103 _ rfl, tb6 104 _ rfl, ⟨by decide, by decide⟩, rfl, rfl⟩
def fc00 : Nat → Nat → Nat := fun _ _ => 0
def M00 : Mem := fun _ _ => 0
def LF : Nat → Nat → Nat := fzap (cF_md (fzap (cF_rf (fzap fc00 fcL 0)) fcL 95)) fcL 111
/-- the memory when both are made -/
def LM : Mem := zap (cM_md (zap (cM_rf (zap M00 0)) 95)) 111
set_option maxHeartbeats 4000000 in
set_option maxRecDepth 20000 in
theorem LF_ok : ∀ r, r < 112 → ∀ k, k < 28 → LF r k = fcL r k := by decide +kernel
theorem nfld_le : ∀ c, nfld c ≤ 28 := by
  intro c
  by_cases h : c < 12
  · have h2 : ∀ c, c < 12 → nfld c ≤ 28 := by decide +kernel
    exact h2 c h
  · unfold nfld
    rw [List.getElem?_eq_none (by show vwCl.length ≤ c; have : vwCl.length = 12 := rfl; omega)]
    exact Nat.zero_le _
theorem LF_wld {g : GG} {b : Nat} {M : Mem} : wld g (kw (kdL, b) LF 112) M = wld g (wL b) M := by
  unfold wld
  refine List.map_congr_left fun r hr => ?_
  have hr : r < 112 := List.mem_range.mp hr
  refine congrArg (Prod.mk _) ?_
  unfold ent
  have h2 : ∀ c, flds (kw (kdL, b) LF 112) r c = flds (wL b) r c := fun c => funext fun z => by
    unfold flds
    refine List.map_congr_left fun k hk => ?_
    have hk : k < nfld c := List.mem_range.mp hk
    show en_f b (LF r k) _ = en_f b (fcL r k) _
    rw [LF_ok r hr k (Nat.lt_of_lt_of_le hk (nfld_le c))]
  show entk g (kw (kdL, b) LF 112) r (kdL r).1 (kdL r).2 (M r) = entk g (wL b) r (kdL r).1 (kdL r).2 (M r)
  unfold entk
  split
  · rw [h2]
  all_goals rfl
set_option maxHeartbeats 4000000 in
set_option maxRecDepth 20000 in
theorem w_begin {z : ZT} {l : Launch} {g : GG} {b a : Nat} {Q : State → Prop} (C : CxK z l g b 0 room_1 cL_law 7 RL (some .boolean)) (hb : (zs z).heap.size = b)
    (kk : YG z g b 7 Q 112 26511 23 [some (.ref a), some (.ref (b + 0)), some (.ref (b + 95)), some (.ref (b + 111)), some (.int (Int32.ofNat 0)), none, none] [] LM) : XK z g (kdL, b) 7 Q 0 0 0 [some (.ref a), none, none, none, none, none, none] [] fc00 0 M00 := by
  have C : CxK z l g (kdL, b).2 0 room_1 cL_law 7 RL (some .boolean) := C
  refine k_new C (T := TX11) (N := 17) (ci := 10) rfl cl_10 ⟨tb1 31 _ rfl, tb1 32 _ rfl, tb1 1 _ rfl⟩ rfl (fn := fcL) (ndef tyX11_ok (by decide +kernel)) ⟨by decide, by decide⟩ dL_law_0 ?_
  refine k_dup C dL_law_3 rfl ?_
  refine k_init (st := [.ref (b + 0)]) C (ck_rf (fun k => if_pos rfl)) lki_L_57 rfl rfl (Nat.le_of_ble_eq_true rfl) ⟨by decide, by decide⟩ ⟨by decide, by decide⟩ dL_law_4 ?_
  refine k_astoren C dL_law_7 (ltb rfl) rfl ?_
  refine k_new C (T := TX12) (N := 28) (ci := 11) rfl cl_11 ⟨tb6 101 _ rfl, tb6 102 _ rfl, tb1 13 _ rfl⟩ rfl (fn := fcL) (ndef tyX12_ok (by decide +kernel)) ⟨by decide, by decide⟩ dL_law_8 ?_
  refine k_dup C dL_law_11 rfl ?_
  refine k_init (st := [.ref (b + 95)]) C (ck_md (fun k => if_pos rfl)) lki_L_60 rfl rfl (Nat.le_of_ble_eq_true rfl) ⟨by decide, by decide⟩ ⟨by decide, by decide⟩ dL_law_12 ?_
  refine k_astoren C dL_law_15 (ltb rfl) rfl ?_
  refine k_iconst C dL_law_16 (v := 1) (by decide) ?_
  refine k_newl C (s := 1) (tb8 6 _ rfl) rfl (by decide) (by decide) (by decide) ⟨by decide, by decide⟩ (fn := fcL) dL_law_17 ?_
  refine k_astoren C dL_law_19 (ltb rfl) rfl ?_
  intro H locs ls hlh hP hz hS
  have hP : va_P g.1 vwCl (wld g (kw (kdL, b) LF 112) LM) H := hP
  rw [LF_wld] at hP
  have hsub : ∀ q, AK b q → AA (wL b) (zs z).heap.size q := fun q hq => Or.inr (by rw [hb]; exact hq)
  have hS2 : va_S (AA (wL b) (zs z).heap.size) (zs z).heap H locs := ⟨hS.1, fun q h1 h2 => hS.2.1 q h1 (fun h3 => h2 (hsub q h3)), fun q hq => hsub _ (hS.2.2 q hq)⟩
  have fin : YG z g b 7 Q (0 + 1 + 94 + 1 + 15 + 1) (0 + 17 + 18222 + 28 + 8243 + 1) (0 + 3 + 1 + 3 + 1 + 3 + 1 + 3 + 1 + 1 + 2 + 1) [some (.ref a), some (.ref (b + 0)), some (.ref (b + 95)), some (.ref (b + 111)), none, none, none] [] LM := by
    refine y_iconst (by exact C) dL_law_20 (v := Int32.ofNat 0) (by decide) ?_
    refine y_istore (by exact C) dL_law_21 (ltb rfl) rfl ?_
    exact fun a9 ha H locs ls hlh hP hS => W.widen (by decide) (by decide) (kk a9 ha H locs ls hlh hP hS)
  exact fin () rfl H locs ls hlh hP hS2
