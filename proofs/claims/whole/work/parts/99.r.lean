/-! from the law's entry to its end -/
theorem u_AO {args : Array Value} {s : State} (hts : ∀ w ∈ lw_tbl, w.before args s = true) : ny_AO s := by
  obtain ⟨comp, cA, kA, f1, f2, f3, f4, f5⟩ := arrayOverA_spec (hts (.arrayOver (.array .int)) (by decide +kernel))
  exact ⟨va_AO.of (hts (.arrayOver (.object "NymphRota$Moment")) (by decide +kernel)), va_AO.of (hts (.arrayOver (.object "NymphRota$Sheet")) (by decide +kernel)), va_AO.of (hts (.arrayOver (.object "NymphRota$Shelf")) (by decide +kernel)), cA, kA, comp, f5, f3, f4, f1⟩
def u_I0 (xs : Nat → Int32) : ny_I := fun c => match c with
  | 0 => xs
  | 1 => ny_ab
  | 3 => ny_by
  | _ => fun _ => 0
theorem u_I0_5 (xs : Nat → Int32) : ∀ c, 5 ≤ c → u_I0 xs c = fun _ => 0 := by
  intro c h
  obtain ⟨k, rfl⟩ : ∃ k, c = k + 5 := ⟨c - 5, by omega⟩
  rfl
theorem u_con {Ln : Nat} {I0 : ny_I} (h0 : ∀ c, 5 ≤ c → I0 c = fun _ => 0) {f ci o m n : Nat} {z : ny_M} {ws : ny_ww} {rs : ny_wr} {u : Nat × Nat × ny_ww × ny_wr} (hz : ny_ini[ci]? = some z) (h5 : 5 ≤ m) (hm : m ≤ 120) (hf : f ≤ 1300)
    (h : ny_ev f ci z 0 [(0, .ref o)] [] m n ws rs = some u) : ny_Cal 1300 (u.1 - m) (u.2.1 - n) z [.ref o] (ny_Kt Ln m) (ny_Iw I0 ws) (ny_Rw rs) (ny_rn (ny_Kt Ln u.1) (ny_Iw I0 u.2.2.1) (ny_Rw u.2.2.2)) := by
  obtain ⟨hz1, hz2, hz3, hz4, hz5⟩ := ny_ini_at ci z hz
  obtain ⟨⟨c1, c2, c3⟩, c4⟩ := ny_ev_ok (Ln := Ln) h0 f 1300 ci z 0 [(0, .ref o)] [] m n ws rs u hf hz2 hz4 h5 hm h
  simp only [ny_zi, ny_zb, Bool.and_eq_true, decide_eq_true_eq] at hz3
  exact ny_enter2 hz3.1.1.1.1.1.1.2 (fun _ => hz3.1.2) hz5 (c4 _ _ 0 0 (by omega) (by omega))
theorem u_start {p : Program} {e : Env} {s : State} {m : MethodId} {below : List Frame} {meth : Method} {c : Code} (l : Launch) {b L : Nat} {xs : Nat → Int32} (hL : L ≤ 2560) (C0 : lw_At p s m meth c b L xs) : W p l e room_1 s m #[Value.ref b] below meth c s.heap [] 0 0 (lw_Z below #[Value.ref b] s) (entryFrame m ([Value.ref b] : List Value).toArray 4) := by
  obtain ⟨E, hS, hX, hz, hxb, hLn, hxs⟩ := u_E C0
  have C := u_C C0 hS hX hz
  have hAO : ny_AO s := u_AO C0.2.2.2.2.2.1
  have h0 := u_I0_5 xs
  have hl0 := lv_entry [Value.ref b] (n := 4) (show 1 ≤ 4 by decide)
  rw [lg_entry_eq]
  generalize ((lg_sl [Value.ref b] ++ List.replicate (4 - (lg_sl [Value.ref b]).length) Slot.unset).toArray) = ls at hl0 ⊢
  have hb0 : ny_v E (.ref 0) = .ref b := by
    show (if (0 : Nat) = 4 then va_rf (ny_fm E) else Value.ref (ny_ph E 0)) = _
    rw [if_neg (by decide)]
    show Value.ref (ny_xb E) = _
    rw [hxb]
  have hl : lv_has ls 4 (([(0, .ref 0)] : ny_Lc).map (ny_lv E)) := by
    show lv_has ls 4 [(0, ny_v E (.ref 0))]
    rw [hb0]
    exact hl0
  have hR : ny_Rl E (ny_Kt L 5) (ny_Iw (u_I0 xs) []) (ny_Rw []) s s.heap [] 0 := by
    refine ⟨⟨?_, ?_, rfl, ⟨rfl, rfl, rfl⟩, ?_⟩, va_S.rf, ?_⟩
    · unfold ny_k5
      rw [hLn]
      rfl
    · exact hxs.symm
    · intro k q hq
      cases hq
    · rw [hz]
      rfl
  have le : ∀ {x y : Nat}, Nat.ble x y = true → x ≤ y := fun h => Nat.le_of_ble_eq_true h
  have k5 := ny_Kt_len (Ln := L) (m := 5) (by decide)
  refine ny_w_new (ci := 9) (index := 7) (S := []) C (by decide) (by decide +kernel) (ny_dec k_Lw_law (i := 0) (q := ny_o1 0 3 (.new 7) 9 0) rfl) hR (by rw [k5]; exact Nat.le_refl 5) (by rw [k5]; rfl) (by rw [k5]; exact ny_fr_R (by decide) (fun q hq => by cases hq)) (le rfl) (le rfl) fun H1 hR1 => ?_
  rw [(ny_Kt_suc (Ln := L) (by decide) (show (ny_KK 0)[5]? = some (0, 9) from rfl)).1] at hR1
  rw [k5]
  refine ny_stp_ok (q := ny_o 3 1 .dup) (g := none) (L := [(0, .ref 0)]) (L' := [(0, .ref 0)]) (S := [.ref 5]) (S' := [.ref 5, .ref 5]) (I' := ny_Iw (u_I0 xs) []) k_Lw_law C (List.mem_of_getElem? (i := 1) rfl) rfl (fun b hb => by cases hb) (le rfl) (le rfl) hR1 hl fun H2 locs2 ls2 hR2 hl2 => ?_
  have hc1 := u_con (Ln := L) h0 (o := 5) (z := m_No_init) rfl (by decide) (by decide) (by decide) ny_run1
  refine ny_w_callI (d := 1300) (S := [.ref 5]) C hAO z_No_init (Or.inl (by decide +kernel)) (by decide) (ny_dec k_Lw_law (i := 2) (q := ny_o 4 3 (.invokespecial 9)) rfl) hl2.1 hR2 ⟨le rfl, le rfl⟩ (by decide) hc1 fun H3 locs3 hR3 => ?_
  have hR3 : ny_Rl E (ny_Kt L 102) (ny_Iw (u_I0 xs) ny_W1) (ny_Rw ny_R1) s H3 locs3 97 := hR3
  show W p l e room_1 s m #[Value.ref b] below meth c H3 locs3 97 3875 (lw_Z below #[Value.ref b] s) (F0 m 7 ls2 (([.ref 5] : List Value).map (ny_v E)))
  refine ny_stp_ok (q := ny_o 7 1 (.astore_n 1)) (g := none) (L := [(0, .ref 0)]) (L' := [(0, .ref 0), (1, .ref 5)]) (S := [.ref 5]) (S' := []) (I' := ny_Iw (u_I0 xs) ny_W1) k_Lw_law C (List.mem_of_getElem? (i := 3) rfl) rfl (fun b hb => by cases hb) (le rfl) (le rfl) hR3 hl2 fun H4 locs4 ls4 hR4 hl4 => ?_
  have k102 := ny_Kt_len (Ln := L) (m := 102) (by decide)
  obtain ⟨hf1, hf2⟩ := ny_fr_ok ny_W1_fr
  refine ny_w_new (ci := 10) (index := 10) (S := []) C (by decide) (by decide +kernel) (ny_dec k_Lw_law (i := 4) (q := ny_o1 8 3 (.new 10) 10 0) rfl) hR4 (by rw [k102]; decide) (by rw [k102]; exact ny_fr_I h0 (by decide) hf1) (by rw [k102]; exact ny_fr_R (by decide) hf2) (le rfl) (le rfl) fun H5 hR5 => ?_
  rw [(ny_Kt_suc (Ln := L) (by decide) (show (ny_KK 0)[102]? = some (0, 10) from rfl)).1] at hR5
  rw [k102]
  refine ny_stp_ok (q := ny_o 11 1 .dup) (g := none) (L := [(0, .ref 0), (1, .ref 5)]) (L' := [(0, .ref 0), (1, .ref 5)]) (S := [.ref 102]) (S' := [.ref 102, .ref 102]) (I' := ny_Iw (u_I0 xs) ny_W1) k_Lw_law C (List.mem_of_getElem? (i := 5) rfl) rfl (fun b hb => by cases hb) (le rfl) (le rfl) hR5 hl4 fun H6 locs6 ls6 hR6 hl6 => ?_
  have hc2 := u_con (Ln := L) h0 (o := 102) (z := m_Md_init) rfl (by decide) (by decide) (by decide) ny_run2
  refine ny_w_callI (d := 1300) (S := [.ref 102]) C hAO z_Md_init (Or.inl (by decide +kernel)) (by decide) (ny_dec k_Lw_law (i := 6) (q := ny_o 12 3 (.invokespecial 12)) rfl) hl6.1 hR6 ⟨le rfl, le rfl⟩ (by decide) hc2 fun H7 locs7 hR7 => ?_
  have hR7 : ny_Rl E (ny_Kt L 120) (ny_Iw (u_I0 xs) ny_W2) (ny_Rw ny_R2) s H7 locs7 115 := hR7
  show W p l e room_1 s m #[Value.ref b] below meth c H7 locs7 115 6283 (lw_Z below #[Value.ref b] s) (F0 m 15 ls6 (([.ref 102] : List Value).map (ny_v E)))
  refine ny_stp_ok (q := ny_o 15 1 (.astore_n 2)) (g := none) (L := [(0, .ref 0), (1, .ref 5)]) (L' := [(0, .ref 0), (1, .ref 5), (2, .ref 102)]) (S := [.ref 102]) (S' := []) (I' := ny_Iw (u_I0 xs) ny_W2) k_Lw_law C (List.mem_of_getElem? (i := 7) rfl) rfl (fun b hb => by cases hb) (le rfl) (le rfl) hR7 hl6 fun H8 locs8 ls8 hR8 hl8 => ?_
  refine ny_stp_ok (q := ny_o2 16 1 (.iconst 0) 0) (g := none) (L := [(0, .ref 0), (1, .ref 5), (2, .ref 102)]) (L' := [(0, .ref 0), (1, .ref 5), (2, .ref 102)]) (S := []) (S' := [.int 0]) (I' := ny_Iw (u_I0 xs) ny_W2) k_Lw_law C (List.mem_of_getElem? (i := 8) rfl) rfl (fun b hb => by cases hb) (le rfl) (le rfl) hR8 hl8 fun H9 locs9 ls9 hR9 hl9 => ?_
  refine ny_stp_ok (q := ny_o 17 1 (.istore_n 3)) (g := none) (L := [(0, .ref 0), (1, .ref 5), (2, .ref 102)]) (L' := [(0, .ref 0), (1, .ref 5), (2, .ref 102), (3, .int 0)]) (S := [.int 0]) (S' := []) (I' := ny_Iw (u_I0 xs) ny_W2) k_Lw_law C (List.mem_of_getElem? (i := 9) rfl) rfl (fun b hb => by cases hb) (le rfl) (le rfl) hR9 hl9 fun H10 locs10 ls10 hR10 hl10 => ?_
  have hKK : ny_Kt L 120 = ny_KK L := List.take_of_length_le (Nat.le_of_eq (show (ny_KK L).length = 120 from rfl))
  rw [hKK, ny_Rval] at hR10
  have h5 : ∀ c, c < 5 → ny_Iw (u_I0 xs) ny_W2 c = u_I0 xs c := fun c hc => ny_Iw_cell fun q hq e => by
    have := Nat.le_of_ble_eq_true (List.all_eq_true.mp ny_W2_5 q hq)
    omega
  exact u_at18 l hL C0 hS hX hz hR10 hl10 (nv_init (h5 1 (by decide)) (congrFun (h5 2 (by decide)) 0) (h5 3 (by decide)) fun c j h1 h2 => ny_vald h0 h1 h2)
