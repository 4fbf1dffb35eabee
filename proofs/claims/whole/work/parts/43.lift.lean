/-! a contract over a part of a world holds over the whole -/
def cut (M : Mem) (o n : Nat) : Mem := fun r i => if r < n then M (o + r) i else 0
theorem cut_at {M : Mem} {o n r : Nat} (h : r < n) : cut M o n r = M (o + r) := funext fun i => if_pos h
def pst (M : Mem) (o n : Nat) (M1 : Mem) : Mem := fun r i => if o ≤ r ∧ r < o + n then M1 (r - o) i else M r i
def Sub (w1 w : WD) (o : Nat) : Prop := w1.2.2.2 = w.2.2.2 + o ∧ o + w1.2.2.1 ≤ w.2.2.1 ∧ ∀ (g : GG) (M : Mem) (r : Nat), r < w1.2.2.1 → ent g w M (o + r) = ent g w1 (cut M o w1.2.2.1) r
theorem Met.wk {l : Launch} {y : MethodName} {ws : List Cond} {rm : Room} {Pc Pc' : Array Value → State → Prop} {Qc Qc' : Array Value → State → Outcome → State → Prop} {mc ms : Nat} {free free' : Addr → Prop} (h : Met l y ws rm Pc Qc mc ms free) (hP : ∀ a s, Pc' a s → Pc a s) (hQ : ∀ a s o t, Pc' a s → Qc a s o t → Qc' a s o t) (hf : ∀ q, free q → free' q) : Met l y ws rm Pc' Qc' mc ms free' := by
  intro p e ha hc hk s m args below hf1 hap hp _
  obtain ⟨n, o, h1, h2, h3, h4, L, h5, h6⟩ := h p e ha hc hk s m args below hf1 hap (hP _ _ hp) trivial
  exact ⟨n, o, h1, h2, h3, hQ _ _ _ _ hp h4, L, h5, fun q hq => hf _ (h6 q hq)⟩
theorem ent_pst {g : GG} {w : WD} {M M' : Mem} {r : Nat} (h : ∀ i, M r i = M' r i) : ent g w M r = ent g w M' r := by
  unfold ent
  rw [show M r = M' r from funext h]
theorem sub_P {g : GG} {w1 w : WD} {o : Nat} (hs : Sub w1 w o) {M : Mem} {H : Heap} (h : va_P g.1 vwCl (wld g w M) H) : va_P g.1 vwCl (wld g w1 (cut M o w1.2.2.1)) H := by
  intro k q hk
  obtain ⟨h1, rfl⟩ := wld_in hk
  have h2 := h (o + k) _ (wld_at (g := g) (w := w) (M := M) (show o + k < w.2.2.1 by have := hs.2.1; omega))
  rw [hs.2.2 g M k h1, show w.2.2.2 + (o + k) = w1.2.2.2 + k by rw [hs.1]; omega] at h2
  exact h2
theorem sub_AA {w1 w : WD} {o sz : Nat} (hs : Sub w1 w o) : ∀ q, AA w1 sz q → AA w sz q := by
  intro q h
  rcases h with ⟨r, h1, rfl⟩ | h
  · exact Or.inl ⟨o + r, by have := hs.2.1; omega, by rw [hs.1]; omega⟩
  · exact Or.inr h
theorem sub_F {A B : Nat → Prop} (hAB : ∀ q, A q → B q) {s t : State} (h : va_F A s t) : va_F B s t := ⟨h.1, fun q h1 h2 => h.2 q h1 (fun h3 => h2 (hAB q h3))⟩
theorem sub_Q {g : GG} {w1 w : WD} {o : Nat} (hs : Sub w1 w o) {M M1 : Mem} {s t : State} (hle : w.2.2.2 + w.2.2.1 ≤ s.heap.size) (h0 : va_P g.1 vwCl (wld g w M) s.heap) (hF : va_F (AA w1 s.heap.size) s t) (h1 : va_P g.1 vwCl (wld g w1 M1) t.heap) : va_P g.1 vwCl (wld g w (pst M o w1.2.2.1 M1)) t.heap := by
  intro k q hk
  obtain ⟨h2, rfl⟩ := wld_in hk
  by_cases h3 : o ≤ k ∧ k < o + w1.2.2.1
  · have h4 := h1 (k - o) _ (wld_at (g := g) (w := w1) (M := M1) (show k - o < w1.2.2.1 by omega))
    have h5 := hs.2.2 g (pst M o w1.2.2.1 M1) (k - o) (by omega)
    rw [show o + (k - o) = k by omega] at h5
    rw [show w1.2.2.2 + (k - o) = w.2.2.2 + k by rw [hs.1]; omega] at h4
    rw [h5]
    have h6 : ent g w1 (cut (pst M o w1.2.2.1 M1) o w1.2.2.1) (k - o) = ent g w1 M1 (k - o) := ent_pst (fun i => by
      rw [cut_at (by omega)]
      unfold pst
      rw [if_pos (by omega), show o + (k - o) - o = k - o by omega])
    rw [h6]
    exact h4
  · have h4 := h0 k _ (wld_at (g := g) (w := w) (M := M) h2)
    rw [ent_pst (M := pst M o w1.2.2.1 M1) (M' := M) (fun i => if_neg h3)]
    refine h4.kept ?_
    refine hF.2 _ (by show w.2.2.2 + k < _; omega) ?_
    rintro (⟨r, h5, h6⟩ | h5)
    · have h7 : w.2.2.2 + k = w1.2.2.2 + r := h6
      rw [hs.1] at h7
      omega
    · have h7 : s.heap.size ≤ w.2.2.2 + k := h5
      omega
theorem sub_PF {g : GG} {w1 w : WD} {o sz : Nat} (hs : Sub w1 w o) {M : Mem} {s : State} (h : PF g w M sz s) : PF g w1 (cut M o w1.2.2.1) sz s := by
  obtain ⟨h1, h2, h3, h4, h5⟩ := h
  exact ⟨h1, sub_P hs h2, h3, h4.narrow (sub_AA hs), by have := hs.2.1; rw [hs.1]; omega⟩
theorem CT.lift {α : Type} {l : Launch} {g : GG} {w1 w : WD} {o : Nat} (hs : Sub w1 w o) {rm : Room} {y : MethodName} {cc : ByteArray} {nL : Nat} {ret : Option FieldType} {av : List Value} {M : Mem} {fin : α → Option Value × Mem} {O : Option α} (h : CT l g w1 rm y cc nL ret av (cut M o w1.2.2.1) fin O) : CT l g w rm y cc nL ret av M (fun a => ((fin a).1, pst M o w1.2.2.1 (fin a).2)) O := by
  intro sz a ha
  refine (h sz a ha).wk (fun a s h => ⟨h.1, sub_PF hs h.2⟩) (fun a s oc t hp hq => ?_) (sub_AA hs)
  obtain ⟨-, h1, h2, h3, h4, h5⟩ := hp
  obtain ⟨q1, q2, q3⟩ := hq
  exact ⟨q1, sub_Q hs (by omega) h2 q3 q2, sub_F (sub_AA hs) q3⟩
theorem CX.lift {l : Launch} {g : GG} {w1 w : WD} {o : Nat} (hs : Sub w1 w o) {rm : Room} {y : MethodName} {cc : ByteArray} {nL : Nat} {ret : Option FieldType} {av : List Value} {M : Mem} {O : Option XR} (h : CX l g w1 rm y cc nL ret av (cut M o w1.2.2.1) O) : CX l g w rm y cc nL ret av M (O.map (fun a => (a.1, a.2.1, pst M o w1.2.2.1 a.2.2))) := by
  intro sz a ha
  obtain ⟨a0, h0, rfl⟩ := Option.map_eq_some_iff.mp ha
  intro p e had hc hk s m args below hf1 hap hp _
  obtain ⟨n, oc, h1, h2, h3, h4⟩ := h sz a0 h0 p e had hc hk s m args below hf1 hap ⟨hp.1, sub_PF hs hp.2⟩ trivial
  refine ⟨n, oc, h1, h2, h3, ?_⟩
  obtain ⟨-, g1, g2, g3, g4, g5⟩ := hp
  rcases h4 with ⟨⟨q0, q1, q2, q3⟩, L, h5, h6⟩ | ⟨q, hq, hT⟩
  · exact Or.inl ⟨⟨q0, q1, sub_Q hs (by omega) g2 q3 q2, sub_F (sub_AA hs) q3⟩, L, h5, fun x hx => sub_AA hs _ (h6 x hx)⟩
  · obtain ⟨E, ce, L, ⟨x1, x2, x3, x4⟩, k2, k3, k4, k5, k6, k7⟩ := hT
    exact Or.inr ⟨q, hq, E, ce, L, ⟨x1, x2, sub_Q hs (by omega) g2 x4 x3, sub_F (sub_AA hs) x4⟩, k2, k3, k4, k5, k6, fun x hx => sub_AA hs _ (k7 x hx)⟩
theorem subC (b : Nat) : Sub (wC b) (kdL, fcL, 112, b) 0 := by
  refine ⟨rfl, by show 0 + 95 ≤ 112; omega, fun g M r hr => ?_⟩
  have hr' : r < 95 := hr
  unfold ent
  have e0 : 0 + r = r := Nat.zero_add r
  show entk g (kdL, fcL, 112, b) (0 + r) (kdL (0 + r)).1 (kdL (0 + r)).2 (M (0 + r)) = entk g (wC b) r (kdC r).1 (kdC r).2 (cut M 0 95 r)
  have e2 : cut M 0 95 r = M r := by rw [cut_at hr', e0]
  rw [e2, e0, show kdL r = kdC r from if_pos hr']
  have e3 : ∀ c z, flds (kdL, fcL, 112, b) r c z = flds (wC b) r c z := fun c z => by
    unfold flds
    refine List.map_congr_left fun k _ => ?_
    show en_f b (fcL r k) _ = en_f b (fcC r k) _
    rw [show fcL r k = fcC r k from if_pos hr']
  unfold entk
  split
  · rw [e3]
  all_goals rfl
theorem fcM_ne (r k : Nat) : fcM r k ≠ 1 := by
  have h : ∀ l ∈ fcML, ∀ x ∈ l, x ≠ 1 := by decide
  unfold fcM
  by_cases hr : r < fcML.length
  · have h1 : fcML.getD r [] ∈ fcML := by rw [List.getD_eq_getElem?_getD, List.getElem?_eq_getElem hr]; exact List.getElem_mem hr
    by_cases hk : k < (fcML.getD r []).length
    · have h2 : (fcML.getD r []).getD k 0 ∈ fcML.getD r [] := by
        rw [List.getD_eq_getElem?_getD (l := fcML.getD r []), List.getElem?_eq_getElem hk]
        exact List.getElem_mem hk
      exact h _ h1 _ h2
    · rw [List.getD_eq_getElem?_getD (l := fcML.getD r []), List.getElem?_eq_none (by omega)]
      decide
  · have h1 : fcML.getD r [] = [] := by rw [List.getD_eq_getElem?_getD, List.getElem?_eq_none (by omega)]; rfl
    rw [h1]
    exact Nat.zero_ne_one
theorem subM (b : Nat) : Sub (wM (b + 95)) (kdL, fcL, 112, b) 95 := by
  refine ⟨rfl, by show 95 + 16 ≤ 112; omega, fun g M r hr => ?_⟩
  have hr' : r < 16 := hr
  unfold ent
  show entk g (kdL, fcL, 112, b) (95 + r) (kdL (95 + r)).1 (kdL (95 + r)).2 (M (95 + r)) = entk g (wM (b + 95)) r (kdM r).1 (kdM r).2 (cut M 95 16 r)
  rw [cut_at hr']
  have e1 : kdL (95 + r) = kdM r := by
    unfold kdL
    rw [if_neg (by omega), if_pos (by omega), show 95 + r - 95 = r by omega]
  rw [e1]
  have e3 : ∀ c z, flds (kdL, fcL, 112, b) (95 + r) c z = flds (wM (b + 95)) r c z := fun c z => by
    unfold flds
    refine List.map_congr_left fun k _ => ?_
    show en_f b (fcL (95 + r) k) _ = en_f (b + 95) (fcM r k) _
    have e4 : fcL (95 + r) k = if fcM r k = 0 then 0 else fcM r k + 95 := by
      unfold fcL
      rw [if_neg (by omega), if_pos (by omega), show 95 + r - 95 = r by omega]
    rw [e4]
    have h1 := fcM_ne r k
    match h2 : fcM r k with
    | 0 => rfl
    | 1 => exact absurd h2 h1
    | c + 2 =>
      rw [if_neg (by omega), show c + 2 + 95 = (c + 95) + 2 by omega]
      show Value.ref (b + (c + 95)) = .ref (b + 95 + c)
      rw [show b + (c + 95) = b + 95 + c by omega]
  unfold entk
  split
  · rw [e3]
  · rfl
  · rfl
  · rfl
  · rfl
  · refine congrArg (fun f => (Sum.inl (g.2.1 5, (kdM r).2, Sum.inr (Sum.inr (Sum.inr (Sum.inr f)))) : va_E)) (funext fun i => ?_)
    show some (b + (95 + r + 1 + i)) = some (b + 95 + (r + 1 + i))
    rw [show b + (95 + r + 1 + i) = b + 95 + (r + 1 + i) by omega]
