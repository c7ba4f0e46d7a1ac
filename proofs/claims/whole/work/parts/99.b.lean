/-! from behind the constructors to the law's end -/
theorem u_C {p : Program} {s : State} {m : MethodId} {meth : Method} {c : Code} {b L : Nat} {xs : Nat → Int32} (C0 : lw_At p s m meth c b L xs) {E : ny_E} (hS : ny_S E s) (hX : ny_X E s s.heap) (hz : ny_sz E = s.heap.size) : ny_C E p s m #[Value.ref b] meth c m_Lw_law room_1 1301 600000 7302250 := by
  obtain ⟨hx, hb, hr, hml, hown, hts, -, -, hlk, -⟩ := C0
  exact ⟨hx, hb, hr, hml, hown, fun w hw => hts w (List.mem_filter.mp hw).1, hlk, fun q => absurd q (by decide), by decide, by decide, rfl, rfl, hS, hX, Nat.le_of_eq hz⟩
theorem u_at18 {p : Program} {e : Env} {s : State} {m : MethodId} {below : List Frame} {meth : Method} {c : Code} (l : Launch) {b L : Nat} {xs : Nat → Int32} (hL : L ≤ 2560) (C0 : lw_At p s m meth c b L xs) {E : ny_E} (hS : ny_S E s) (hX : ny_X E s s.heap) (hz : ny_sz E = s.heap.size) {H : Heap} {locs : List Loc} {ls : Array Slot} {I : ny_I} (hR : ny_Rl E (ny_KK L) I ny_RR s H locs 115) (hl : lv_has ls 4 ((ny_LL 0).map (ny_lv E))) (hv : nv I) : W p l e room_1 s m #[Value.ref b] below meth c H locs 115 6283 (lw_Z below #[Value.ref b] s) (F0 m 18 ls []) := by
  have h := u_loop hL L 0 I (by omega) (by omega) hv
  refine h p l e room_1 s m _ below meth c H locs ls _ E (u_C C0 hS hX hz) (by decide) (by decide) hR hl ?_
  intro H' locs' pc' ls' hS' hd
  obtain ⟨hx, hb, hr, hml, hown, hts, -, -, hlk, -⟩ := C0
  have h1 := lw_ret (e := e) (s := s) (m := m) (below := below) (b := b) (l := l) hx hb hr hlk (pc := pc') (H := H') (ls := ls') hd
  have h2 := W.forget (L := locs') (fun q hq => by have := hS'.2.2 q hq; show s.heap.size ≤ q.base; rw [← hz]; exact this) h1
  rw [List.nil_append] at h2
  exact h2
