/-- what the tables and the Statement give of the start -/
theorem lw_facts {p : Program} {s : State} {m : MethodId} {meth : Method} {c : Code} {b L : Nat} {xs : Nat → Int32} (C0 : lw_At p s m meth c b L xs) : ∃ g : GG, KO g s ∧ Im g (AK s.heap.size) s s.heap := st_Im C0.2.2.2.2.2.1 C0.2.2.2.2.2.2.2.2.2
set_option maxHeartbeats 1000000 in
theorem whole_from {Inv : Nat → Mem → Mem → Prop} (hS : SpAll Inv) (h0 : Inv 512 (cut LM 0 95) (cut LM 95 16)) {p : Program} {e : Env} {s : State} {m : MethodId} {below : List Frame} {meth : Method} {c : Code} (l : Launch) (hflags : l.flags = flags0) {b L : Nat} {xs : Nat → Int32} (hL : L ≤ 3072) (C0 : lw_At p s m meth c b L xs) : W p l e room_1 s m #[Value.ref b] below meth c s.heap [] 0 0 (lw_Z below #[Value.ref b] s) (entryFrame m ([Value.ref b] : List Value).toArray 7) := by
  obtain ⟨g, hKO, hIm⟩ := lw_facts C0
  obtain ⟨hx, hb, hr, hml, hown, hts, hX, hbl, hlocks, hpre⟩ := C0
  have hl : l.stackTraces = false := by
    unfold Launch.stackTraces
    rw [hflags]
    decide
  have C : CxK (p, l, e, room_1, s, m, #[Value.ref b], below, meth, c) l g s.heap.size 0 room_1 cL_law 7 RL (some .boolean) := ⟨hx, hb, hml, hown, hr, hlocks, fun w hw _ => hts w hw, hKO, hIm, rfl, rfl, rfl⟩
  have hQ : ∀ k1 n1 L1 M1, k1 ≤ 6000 → n1 ≤ 200000 → YG (p, l, e, room_1, s, m, #[Value.ref b], below, meth, c) g s.heap.size 7 (lw_Z below #[Value.ref b] s) k1 n1 1151 L1 [.int 1] M1 := by
    intro k1 n1 L1 M1 h1 h2 a9 ha H locs ls hlh hP hS
    refine va_forget (fun q hq => ?_) (W.widen (k := 601024) (n := 7293034) (by omega) (by omega) (lw_ret hx hb hr hlocks dL_law_1151))
    rcases hS.2.2 q hq with ⟨r, _, h⟩ | h
    · show s.heap.size ≤ q.base
      have h9 : q.base = s.heap.size + r := h
      rw [h9]
      exact Nat.le_add_right _ _
    · exact h
  have hI0 := w_loop C hl hX hbl hL hS hQ 512 0 112 26511 LM none none (by omega) (by omega) (by omega) (by omega) h0
  have hW := w_begin (a := b) C rfl hI0
  rw [lg_entry_eq]
  refine hW s.heap [] _ (lh_entry [.ref b] (Nat.le_of_ble_eq_true rfl) (by intro v hv; rw [List.mem_singleton.mp hv]; rfl)) (fun k q hk => by cases hk) rfl va_S.rf
