/-! every instruction of the memory is one of the machine -/
section NYIV
variable {p : Program} {l : Launch} {e : Env} {Rm : Room} {s : State} {m : MethodId} {args : Array Value} {below : List Frame} {meth : Method} {c : Code} {H : Heap} {locs : List Loc} {ls : Array Slot} {Q : State → Prop} {E : ny_E} {d mc ms k n : Nat} {K : ny_K} {R : ny_R} {I I' : ny_I} {y : ny_M} {L L' : ny_Lc} {S S' : List Value} {g : Option Bool}
theorem ny_ldI_iv {i : Nat} (h : ny_ldI L S I i = some (g, L', S', I')) : ∃ x, ny_lk L i = some (.int x) ∧ g = none ∧ L' = L ∧ S' = .int x :: S ∧ I' = I := by
  unfold ny_ldI at h
  split at h
  next x hx => cases h; exact ⟨_, hx, rfl, rfl, rfl, rfl⟩
  all_goals cases h
theorem ny_ldL_iv {i : Nat} (h : ny_ldL L S I i = some (g, L', S', I')) : ∃ x, ny_lk L i = some (.long x) ∧ g = none ∧ L' = L ∧ S' = .long x :: S ∧ I' = I := by
  unfold ny_ldL at h
  split at h
  next x hx => cases h; exact ⟨_, hx, rfl, rfl, rfl, rfl⟩
  all_goals cases h
theorem ny_ldA_iv {i : Nat} (h : ny_ldA L S I i = some (g, L', S', I')) : ∃ x, ny_lk L i = some (.ref x) ∧ g = none ∧ L' = L ∧ S' = .ref x :: S ∧ I' = I := by
  unfold ny_ldA at h
  split at h
  next x hx => cases h; exact ⟨_, hx, rfl, rfl, rfl, rfl⟩
  all_goals cases h
theorem ny_siI_iv {i : Nat} (h : ny_siI L S I i = some (g, L', S', I')) : ∃ x t, S = .int x :: t ∧ g = none ∧ L' = ny_st L i (.int x) ∧ S' = t ∧ I' = I := by
  unfold ny_siI at h
  split at h
  next => cases h; exact ⟨_, _, rfl, rfl, rfl, rfl, rfl⟩
  all_goals cases h
theorem ny_siL_iv {i : Nat} (h : ny_siL L S I i = some (g, L', S', I')) : ∃ x t, S = .long x :: t ∧ g = none ∧ L' = ny_st2 L i (.long x) ∧ S' = t ∧ I' = I := by
  unfold ny_siL at h
  split at h
  next => cases h; exact ⟨_, _, rfl, rfl, rfl, rfl, rfl⟩
  all_goals cases h
theorem ny_siA_iv {i : Nat} (h : ny_siA L S I i = some (g, L', S', I')) : ∃ x t, S = .ref x :: t ∧ g = none ∧ L' = ny_st L i (.ref x) ∧ S' = t ∧ I' = I := by
  unfold ny_siA at h
  split at h
  next => cases h; exact ⟨_, _, rfl, rfl, rfl, rfl, rfl⟩
  all_goals cases h
theorem ny_i2_iv {f : Int32 → Int32 → Int32} (h : ny_i2 L S I f = some (g, L', S', I')) : ∃ x y t, S = .int y :: .int x :: t ∧ g = none ∧ L' = L ∧ S' = .int (f x y) :: t ∧ I' = I := by
  unfold ny_i2 at h
  split at h
  next => cases h; exact ⟨_, _, _, rfl, rfl, rfl, rfl, rfl⟩
  all_goals cases h
theorem ny_i2g_iv {f : Int32 → Int32 → Int32} (h : ny_i2g L S I f = some (g, L', S', I')) : ∃ x y t, S = .int y :: .int x :: t ∧ g = some (!(decide (y = 0))) ∧ L' = L ∧ S' = .int (f x y) :: t ∧ I' = I := by
  unfold ny_i2g at h
  split at h
  next => cases h; exact ⟨_, _, _, rfl, rfl, rfl, rfl, rfl⟩
  all_goals cases h
theorem ny_i1_iv {f : Int32 → Int32} (h : ny_i1 L S I f = some (g, L', S', I')) : ∃ x t, S = .int x :: t ∧ g = none ∧ L' = L ∧ S' = .int (f x) :: t ∧ I' = I := by
  unfold ny_i1 at h
  split at h
  next => cases h; exact ⟨_, _, rfl, rfl, rfl, rfl, rfl⟩
  all_goals cases h
theorem ny_l2_iv {f : Int64 → Int64 → Int64} (h : ny_l2 L S I f = some (g, L', S', I')) : ∃ x y t, S = .long y :: .long x :: t ∧ g = none ∧ L' = L ∧ S' = .long (f x y) :: t ∧ I' = I := by
  unfold ny_l2 at h
  split at h
  next => cases h; exact ⟨_, _, _, rfl, rfl, rfl, rfl, rfl⟩
  all_goals cases h
theorem ny_l2g_iv {f : Int64 → Int64 → Int64} (h : ny_l2g L S I f = some (g, L', S', I')) : ∃ x y t, S = .long y :: .long x :: t ∧ g = some (!(decide (y = 0))) ∧ L' = L ∧ S' = .long (f x y) :: t ∧ I' = I := by
  unfold ny_l2g at h
  split at h
  next => cases h; exact ⟨_, _, _, rfl, rfl, rfl, rfl, rfl⟩
  all_goals cases h
theorem ny_li_iv {f : Int64 → Int32 → Int64} (h : ny_li L S I f = some (g, L', S', I')) : ∃ x y t, S = .int y :: .long x :: t ∧ g = none ∧ L' = L ∧ S' = .long (f x y) :: t ∧ I' = I := by
  unfold ny_li at h
  split at h
  next => cases h; exact ⟨_, _, _, rfl, rfl, rfl, rfl, rfl⟩
  all_goals cases h
end NYIV
section NYOK
variable {p : Program} {l : Launch} {e : Env} {Rm : Room} {s : State} {m : MethodId} {args : Array Value} {below : List Frame} {meth : Method} {c : Code} {H : Heap} {locs : List Loc} {ls : Array Slot} {Q : State → Prop} {E : ny_E} {d mc ms k n : Nat} {K : ny_K} {R : ny_R} {I I' : ny_I} {y : ny_M} {L L' : ny_Lc} {S S' : List Value} {g : Option Bool}
set_option maxHeartbeats 4000000 in
theorem ny_stp_ok {own : Nat} (hy : ny_chk own y = true) (C : ny_C E p s m args meth c y Rm d mc ms) {q : ny_Op} (hq : q ∈ y.2.2.2.2.2) (h : ny_stp q K R L S I = some (g, L', S', I')) (hg : ∀ b, g = some b → b = true)
    (hkm : k ≤ mc) (hnm : n ≤ ms) (hR : ny_Rl E K I R s H locs k) (hl : lv_has ls y.2.2.1 (L.map (ny_lv E)))
    (kk : ∀ H' locs' ls', ny_Rl E K I' R s H' locs' k → lv_has ls' y.2.2.1 (L'.map (ny_lv E)) → W p l e Rm s m args below meth c H' locs' k n Q (F0 m (q.1 + q.2.1) ls' (S'.map (ny_v E)))) :
    W p l e Rm s m args below meth c H locs k n Q (F0 m q.1 ls (S.map (ny_v E))) := by
  obtain ⟨pc, len, ins, a, b, v, w⟩ := q
  unfold ny_chk at hy
  simp only [Bool.and_eq_true, decide_eq_true_eq] at hy
  obtain ⟨⟨hcn, ho⟩, hall⟩ := hy
  have hq2 := List.all_eq_true.mp hall _ hq
  simp only [Bool.and_eq_true, decide_eq_true_eq] at hq2
  obtain ⟨hd0, hok0⟩ := hq2
  unfold ny_okp at hok0
  rw [Bool.and_eq_true] at hok0
  obtain ⟨hlen0, hok⟩ := hok0
  have hlen := of_decide_eq_true hlen0
  clear hlen0
  obtain ⟨hx, hb, hr, hml, hown, hts, hlk, hin, hf1, hf2, hc, hs, ⟨hK, hN⟩, hX, hsz⟩ := id C
  have hd : decode y.2.1 pc = .ok (ins, len) := hd0
  clear hd0 hall
  cases ins
  case iload i =>
    obtain rfl : len = 2 := hlen.resolve_right (fun z => absurd (show (2 : Nat) = 0 from z) (by decide))
    obtain ⟨x, e1, rfl, rfl, rfl, rfl⟩ := ny_ldI_iv h
    exact lv_iload hx hb hd (ny_lk_has hl e1) (kk H locs ls hR hl)
  case iload_n i =>
    obtain rfl : len = 1 := hlen.resolve_right (fun z => absurd (show (1 : Nat) = 0 from z) (by decide))
    obtain ⟨x, e1, rfl, rfl, rfl, rfl⟩ := ny_ldI_iv h
    exact lv_iload_n hx hb hd rfl (ny_lk_has hl e1) (kk H locs ls hR hl)
  case lload i =>
    obtain rfl : len = 2 := hlen.resolve_right (fun z => absurd (show (2 : Nat) = 0 from z) (by decide))
    obtain ⟨x, e1, rfl, rfl, rfl, rfl⟩ := ny_ldL_iv h
    exact lv_lload hx hb hd (ny_lk_has hl e1) (kk H locs ls hR hl)
  case lload_n i =>
    obtain rfl : len = 1 := hlen.resolve_right (fun z => absurd (show (1 : Nat) = 0 from z) (by decide))
    obtain ⟨x, e1, rfl, rfl, rfl, rfl⟩ := ny_ldL_iv h
    exact lv_lload_n hx hb hd rfl (ny_lk_has hl e1) (kk H locs ls hR hl)
  case aload i =>
    obtain rfl : len = 2 := hlen.resolve_right (fun z => absurd (show (2 : Nat) = 0 from z) (by decide))
    obtain ⟨x, e1, rfl, rfl, rfl, rfl⟩ := ny_ldA_iv h
    have e2 := ny_lk_has hl e1
    have kk := kk H locs ls hR hl
    rw [List.map_cons] at kk
    by_cases h4 : x = 4
    · subst h4; cases hf : ny_fm E with
      | none => rw [show ny_v E (.ref 4) = .null by show va_rf (ny_fm E) = _; rw [hf]; rfl] at e2 kk; exact lv_aloadN hx hb hd e2 kk
      | some z => rw [show ny_v E (.ref 4) = .ref z by show va_rf (ny_fm E) = _; rw [hf]; rfl] at e2 kk; exact lv_aload hx hb hd e2 kk
    · rw [ny_refs h4] at e2 kk; exact lv_aload hx hb hd e2 kk
  case aload_n i =>
    obtain rfl : len = 1 := hlen.resolve_right (fun z => absurd (show (1 : Nat) = 0 from z) (by decide))
    obtain ⟨x, e1, rfl, rfl, rfl, rfl⟩ := ny_ldA_iv h
    have e2 := ny_lk_has hl e1
    have kk := kk H locs ls hR hl
    rw [List.map_cons] at kk
    by_cases h4 : x = 4
    · subst h4; cases hf : ny_fm E with
      | none => rw [show ny_v E (.ref 4) = .null by show va_rf (ny_fm E) = _; rw [hf]; rfl] at e2 kk; exact lv_aload_nN hx hb hd rfl e2 kk
      | some z => rw [show ny_v E (.ref 4) = .ref z by show va_rf (ny_fm E) = _; rw [hf]; rfl] at e2 kk; exact lv_aload_n hx hb hd rfl e2 kk
    · rw [ny_refs h4] at e2 kk; exact lv_aload_n hx hb hd rfl e2 kk
  case istore i =>
    obtain rfl : len = 2 := hlen.resolve_right (fun z => absurd (show (2 : Nat) = 0 from z) (by decide))
    obtain ⟨x, t, rfl, rfl, rfl, rfl, rfl⟩ := ny_siI_iv h
    exact lv_istore hx hb hd hl (of_decide_eq_true hok) rfl (fun ls2 hl2 => kk H locs ls2 hR (ny_st_has hl2))
  case istore_n i =>
    obtain rfl : len = 1 := hlen.resolve_right (fun z => absurd (show (1 : Nat) = 0 from z) (by decide))
    obtain ⟨x, t, rfl, rfl, rfl, rfl, rfl⟩ := ny_siI_iv h
    exact lv_istore_n hx hb hd rfl hl (of_decide_eq_true hok) rfl (fun ls2 hl2 => kk H locs ls2 hR (ny_st_has hl2))
  case lstore i =>
    obtain rfl : len = 2 := hlen.resolve_right (fun z => absurd (show (2 : Nat) = 0 from z) (by decide))
    obtain ⟨x, t, rfl, rfl, rfl, rfl, rfl⟩ := ny_siL_iv h
    exact lv_lstore hx hb hd hl (of_decide_eq_true hok) rfl (fun ls2 hl2 => kk H locs ls2 hR (ny_st2_has hl2))
  case lstore_n i =>
    obtain rfl : len = 1 := hlen.resolve_right (fun z => absurd (show (1 : Nat) = 0 from z) (by decide))
    obtain ⟨x, t, rfl, rfl, rfl, rfl, rfl⟩ := ny_siL_iv h
    exact lv_lstore_n hx hb hd rfl hl (of_decide_eq_true hok) rfl (fun ls2 hl2 => kk H locs ls2 hR (ny_st2_has hl2))
  case astore i =>
    obtain rfl : len = 2 := hlen.resolve_right (fun z => absurd (show (2 : Nat) = 0 from z) (by decide))
    obtain ⟨x, t, rfl, rfl, rfl, rfl, rfl⟩ := ny_siA_iv h
    by_cases h4 : x = 4
    · subst h4; cases hf : ny_fm E with
      | none => rw [List.map_cons, show ny_v E (.ref 4) = .null by show va_rf (ny_fm E) = _; rw [hf]; rfl]; exact lv_astoreN hx hb hd hl (of_decide_eq_true hok) rfl (fun ls2 hl2 => kk H locs ls2 hR (ny_st_has (v := .ref 4) (by rw [show ny_v E (.ref 4) = .null by show va_rf (ny_fm E) = _; rw [hf]; rfl]; exact hl2)))
      | some z => rw [List.map_cons, show ny_v E (.ref 4) = .ref z by show va_rf (ny_fm E) = _; rw [hf]; rfl]; exact lv_astore hx hb hd hl (of_decide_eq_true hok) rfl (fun ls2 hl2 => kk H locs ls2 hR (ny_st_has (v := .ref 4) (by rw [show ny_v E (.ref 4) = .ref z by show va_rf (ny_fm E) = _; rw [hf]; rfl]; exact hl2)))
    · rw [List.map_cons, ny_refs h4]; exact lv_astore hx hb hd hl (of_decide_eq_true hok) rfl (fun ls2 hl2 => kk H locs ls2 hR (ny_st_has (v := .ref x) (by rw [ny_refs h4]; exact hl2)))
  case astore_n i =>
    obtain rfl : len = 1 := hlen.resolve_right (fun z => absurd (show (1 : Nat) = 0 from z) (by decide))
    obtain ⟨x, t, rfl, rfl, rfl, rfl, rfl⟩ := ny_siA_iv h
    by_cases h4 : x = 4
    · subst h4; cases hf : ny_fm E with
      | none => rw [List.map_cons, show ny_v E (.ref 4) = .null by show va_rf (ny_fm E) = _; rw [hf]; rfl]; exact lv_astore_nN hx hb hd rfl hl (of_decide_eq_true hok) rfl (fun ls2 hl2 => kk H locs ls2 hR (ny_st_has (v := .ref 4) (by rw [show ny_v E (.ref 4) = .null by show va_rf (ny_fm E) = _; rw [hf]; rfl]; exact hl2)))
      | some z => rw [List.map_cons, show ny_v E (.ref 4) = .ref z by show va_rf (ny_fm E) = _; rw [hf]; rfl]; exact lv_astore_n hx hb hd rfl hl (of_decide_eq_true hok) rfl (fun ls2 hl2 => kk H locs ls2 hR (ny_st_has (v := .ref 4) (by rw [show ny_v E (.ref 4) = .ref z by show va_rf (ny_fm E) = _; rw [hf]; rfl]; exact hl2)))
    · rw [List.map_cons, ny_refs h4]; exact lv_astore_n hx hb hd rfl hl (of_decide_eq_true hok) rfl (fun ls2 hl2 => kk H locs ls2 hR (ny_st_has (v := .ref x) (by rw [ny_refs h4]; exact hl2)))
  case iinc i nn =>
    obtain rfl : len = 3 := hlen.resolve_right (fun z => absurd (show (3 : Nat) = 0 from z) (by decide))
    have h : (match (generalizing := false) ny_lk L i with | some (Value.int x) => some (none, ny_st L i (Value.int (x + v)), S, I) | _ => none) = some (g, L', S', I') := h
    simp only [Bool.and_eq_true, decide_eq_true_eq] at hok
    split at h
    next x hx2 =>
      cases h
      have hm := ny_lk_has hl hx2
      obtain ⟨kp, hkp⟩ : ∃ kp, (L.map (ny_lv E))[kp]? = some (i, Value.int x) := List.getElem?_of_mem (List.mem_map.mpr ⟨(i, Value.int x), ny_lk_mem hx2, rfl⟩)
      exact lv_iinc (v := x + v) hx hb hd hl hkp (by rw [hok.2]) hok.1 rfl (fun ls2 hl2 => kk H locs ls2 hR (ny_st_has hl2))
    all_goals cases h
  case iconst nn =>
    obtain rfl : len = 1 := hlen.resolve_right (fun z => absurd (show (1 : Nat) = 0 from z) (by decide))
    cases h
    exact lv_iconst hx hb hd (of_decide_eq_true hok) (kk H locs ls hR hl)
  case bipush nn =>
    obtain rfl : len = 2 := hlen.resolve_right (fun z => absurd (show (2 : Nat) = 0 from z) (by decide))
    cases h
    exact lv_bipush hx hb hd (of_decide_eq_true hok) (kk H locs ls hR hl)
  case sipush nn =>
    obtain rfl : len = 3 := hlen.resolve_right (fun z => absurd (show (3 : Nat) = 0 from z) (by decide))
    cases h
    exact lv_sipush hx hb hd (of_decide_eq_true hok) (kk H locs ls hR hl)
  case lconst nn =>
    obtain rfl : len = 1 := hlen.resolve_right (fun z => absurd (show (1 : Nat) = 0 from z) (by decide))
    cases h
    exact lv_lconst hx hb hd (of_decide_eq_true hok) (kk H locs ls hR hl)
  case ldc2_w nn =>
    obtain rfl : len = 3 := hlen.resolve_right (fun z => absurd (show (3 : Nat) = 0 from z) (by decide))
    cases h
    exact lv_ldc2 hx hb hown (hts _ (ny_mem_tb hok)) hd (kk H locs ls hR hl)
  case ldc_w nn =>
    obtain rfl : len = 3 := hlen.resolve_right (fun z => absurd (show (3 : Nat) = 0 from z) (by decide))
    cases h
    exact lv_ldcw hx hb hown (hts _ (ny_mem_tb hok)) hd (kk H locs ls hR hl)
  case ldc nn =>
    obtain rfl : len = 2 := hlen.resolve_right (fun z => absurd (show (2 : Nat) = 0 from z) (by decide))
    have h : (match (generalizing := false) a with | 1 => some (none, L, Value.ref 2 :: S, I) | _ => some (none, L, Value.int v :: S, I)) = some (g, L', S', I') := h
    have hok : (if a = 1 then decide (y.1.cls = "NymphRota$Tape" ∧ nn = 94) else ny_mem (.constant y.1.cls nn v)) = true := hok
    split at h
    · rw [if_pos rfl] at hok
      obtain ⟨hc1, rfl⟩ := of_decide_eq_true hok
      cases h
      rw [hc1] at hown
      have kk := kk H locs ls hR hl
      rw [List.map_cons, ny_refs (by decide)] at kk
      exact va_ldcS hx hb hown hX.2.2.2.2.2.2.1 hd kk
    · next hne =>
        rw [if_neg hne] at hok
        cases h
        exact lv_ldc hx hb hown (hts _ (ny_mem_tb hok)) hd (kk H locs ls hR hl)
  case iadd =>
    obtain rfl : len = 1 := hlen.resolve_right (fun z => absurd (show (1 : Nat) = 0 from z) (by decide))
    obtain ⟨x, z, t, rfl, rfl, rfl, rfl, rfl⟩ := ny_i2_iv h
    exact lv_iadd hx hb hd (kk H locs ls hR hl)
  case isub =>
    obtain rfl : len = 1 := hlen.resolve_right (fun z => absurd (show (1 : Nat) = 0 from z) (by decide))
    obtain ⟨x, z, t, rfl, rfl, rfl, rfl, rfl⟩ := ny_i2_iv h
    exact lv_isub hx hb hd (kk H locs ls hR hl)
  case imul =>
    obtain rfl : len = 1 := hlen.resolve_right (fun z => absurd (show (1 : Nat) = 0 from z) (by decide))
    obtain ⟨x, z, t, rfl, rfl, rfl, rfl, rfl⟩ := ny_i2_iv h
    exact lv_imul hx hb hd (kk H locs ls hR hl)
  case iand =>
    obtain rfl : len = 1 := hlen.resolve_right (fun z => absurd (show (1 : Nat) = 0 from z) (by decide))
    obtain ⟨x, z, t, rfl, rfl, rfl, rfl, rfl⟩ := ny_i2_iv h
    exact lv_iand hx hb hd (kk H locs ls hR hl)
  case ior =>
    obtain rfl : len = 1 := hlen.resolve_right (fun z => absurd (show (1 : Nat) = 0 from z) (by decide))
    obtain ⟨x, z, t, rfl, rfl, rfl, rfl, rfl⟩ := ny_i2_iv h
    exact lv_ior hx hb hd (kk H locs ls hR hl)
  case ixor =>
    obtain rfl : len = 1 := hlen.resolve_right (fun z => absurd (show (1 : Nat) = 0 from z) (by decide))
    obtain ⟨x, z, t, rfl, rfl, rfl, rfl, rfl⟩ := ny_i2_iv h
    exact lv_ixor hx hb hd (kk H locs ls hR hl)
  case ishl =>
    obtain rfl : len = 1 := hlen.resolve_right (fun z => absurd (show (1 : Nat) = 0 from z) (by decide))
    obtain ⟨x, z, t, rfl, rfl, rfl, rfl, rfl⟩ := ny_i2_iv h
    exact lv_ishl hx hb hd (kk H locs ls hR hl)
  case ishr =>
    obtain rfl : len = 1 := hlen.resolve_right (fun z => absurd (show (1 : Nat) = 0 from z) (by decide))
    obtain ⟨x, z, t, rfl, rfl, rfl, rfl, rfl⟩ := ny_i2_iv h
    exact lv_ishr hx hb hd (kk H locs ls hR hl)
  case iushr =>
    obtain rfl : len = 1 := hlen.resolve_right (fun z => absurd (show (1 : Nat) = 0 from z) (by decide))
    obtain ⟨x, z, t, rfl, rfl, rfl, rfl, rfl⟩ := ny_i2_iv h
    exact lv_iushr hx hb hd rfl (kk H locs ls hR hl)
  case idiv =>
    obtain rfl : len = 1 := hlen.resolve_right (fun z => absurd (show (1 : Nat) = 0 from z) (by decide))
    obtain ⟨x, z, t, rfl, rfl, rfl, rfl, rfl⟩ := ny_i2g_iv h
    have hz := hg _ rfl
    simp only [Bool.not_eq_true', decide_eq_false_iff_not] at hz
    exact lv_idiv hx hb hd hz (kk H locs ls hR hl)
  case irem =>
    obtain rfl : len = 1 := hlen.resolve_right (fun z => absurd (show (1 : Nat) = 0 from z) (by decide))
    obtain ⟨x, z, t, rfl, rfl, rfl, rfl, rfl⟩ := ny_i2g_iv h
    have hz := hg _ rfl
    simp only [Bool.not_eq_true', decide_eq_false_iff_not] at hz
    exact lv_irem hx hb hd hz (kk H locs ls hR hl)
  case i2b =>
    obtain rfl : len = 1 := hlen.resolve_right (fun z => absurd (show (1 : Nat) = 0 from z) (by decide))
    obtain ⟨x, t, rfl, rfl, rfl, rfl, rfl⟩ := ny_i1_iv h
    exact lv_i2b hx hb hd rfl (kk H locs ls hR hl)
  case i2s =>
    obtain rfl : len = 1 := hlen.resolve_right (fun z => absurd (show (1 : Nat) = 0 from z) (by decide))
    obtain ⟨x, t, rfl, rfl, rfl, rfl, rfl⟩ := ny_i1_iv h
    exact lv_i2s hx hb hd rfl (kk H locs ls hR hl)
  case i2c =>
    obtain rfl : len = 1 := hlen.resolve_right (fun z => absurd (show (1 : Nat) = 0 from z) (by decide))
    obtain ⟨x, t, rfl, rfl, rfl, rfl, rfl⟩ := ny_i1_iv h
    exact lv_i2c hx hb hd rfl (kk H locs ls hR hl)
  case ladd =>
    obtain rfl : len = 1 := hlen.resolve_right (fun z => absurd (show (1 : Nat) = 0 from z) (by decide))
    obtain ⟨x, z, t, rfl, rfl, rfl, rfl, rfl⟩ := ny_l2_iv h
    exact lv_ladd hx hb hd (kk H locs ls hR hl)
  case lsub =>
    obtain rfl : len = 1 := hlen.resolve_right (fun z => absurd (show (1 : Nat) = 0 from z) (by decide))
    obtain ⟨x, z, t, rfl, rfl, rfl, rfl, rfl⟩ := ny_l2_iv h
    exact lv_lsub hx hb hd (kk H locs ls hR hl)
  case lmul =>
    obtain rfl : len = 1 := hlen.resolve_right (fun z => absurd (show (1 : Nat) = 0 from z) (by decide))
    obtain ⟨x, z, t, rfl, rfl, rfl, rfl, rfl⟩ := ny_l2_iv h
    exact lv_lmul hx hb hd (kk H locs ls hR hl)
  case land =>
    obtain rfl : len = 1 := hlen.resolve_right (fun z => absurd (show (1 : Nat) = 0 from z) (by decide))
    obtain ⟨x, z, t, rfl, rfl, rfl, rfl, rfl⟩ := ny_l2_iv h
    exact lv_land hx hb hd (kk H locs ls hR hl)
  case lor =>
    obtain rfl : len = 1 := hlen.resolve_right (fun z => absurd (show (1 : Nat) = 0 from z) (by decide))
    obtain ⟨x, z, t, rfl, rfl, rfl, rfl, rfl⟩ := ny_l2_iv h
    exact lv_lor hx hb hd (kk H locs ls hR hl)
  case lxor =>
    obtain rfl : len = 1 := hlen.resolve_right (fun z => absurd (show (1 : Nat) = 0 from z) (by decide))
    obtain ⟨x, z, t, rfl, rfl, rfl, rfl, rfl⟩ := ny_l2_iv h
    exact lv_lxor hx hb hd (kk H locs ls hR hl)
  case ldiv =>
    obtain rfl : len = 1 := hlen.resolve_right (fun z => absurd (show (1 : Nat) = 0 from z) (by decide))
    obtain ⟨x, z, t, rfl, rfl, rfl, rfl, rfl⟩ := ny_l2g_iv h
    have hz := hg _ rfl
    simp only [Bool.not_eq_true', decide_eq_false_iff_not] at hz
    exact lv_ldiv hx hb hd hz (kk H locs ls hR hl)
  case lrem =>
    obtain rfl : len = 1 := hlen.resolve_right (fun z => absurd (show (1 : Nat) = 0 from z) (by decide))
    obtain ⟨x, z, t, rfl, rfl, rfl, rfl, rfl⟩ := ny_l2g_iv h
    have hz := hg _ rfl
    simp only [Bool.not_eq_true', decide_eq_false_iff_not] at hz
    exact lv_lrem hx hb hd hz (kk H locs ls hR hl)
  case lshl =>
    obtain rfl : len = 1 := hlen.resolve_right (fun z => absurd (show (1 : Nat) = 0 from z) (by decide))
    obtain ⟨x, z, t, rfl, rfl, rfl, rfl, rfl⟩ := ny_li_iv h
    exact lv_lshl hx hb hd rfl (kk H locs ls hR hl)
  case lshr =>
    obtain rfl : len = 1 := hlen.resolve_right (fun z => absurd (show (1 : Nat) = 0 from z) (by decide))
    obtain ⟨x, z, t, rfl, rfl, rfl, rfl, rfl⟩ := ny_li_iv h
    exact lv_lshr hx hb hd rfl (kk H locs ls hR hl)
  case lushr =>
    obtain rfl : len = 1 := hlen.resolve_right (fun z => absurd (show (1 : Nat) = 0 from z) (by decide))
    obtain ⟨x, z, t, rfl, rfl, rfl, rfl, rfl⟩ := ny_li_iv h
    exact lv_lushr hx hb hd rfl (kk H locs ls hR hl)
  case i2l =>
    obtain rfl : len = 1 := hlen.resolve_right (fun z => absurd (show (1 : Nat) = 0 from z) (by decide))
    have h : (match (generalizing := false) S with | .int x :: t => some (none, L, Value.long x.toInt64 :: t, I) | _ => none) = some (g, L', S', I') := h
    split at h
    next x t => cases h; exact lv_i2l hx hb hd rfl (kk H locs ls hR hl)
    all_goals cases h
  case l2i =>
    obtain rfl : len = 1 := hlen.resolve_right (fun z => absurd (show (1 : Nat) = 0 from z) (by decide))
    have h : (match (generalizing := false) S with | .long x :: t => some (none, L, Value.int x.toInt32 :: t, I) | _ => none) = some (g, L', S', I') := h
    split at h
    next x t => cases h; exact lv_l2i hx hb hd rfl (kk H locs ls hR hl)
    all_goals cases h
  case lcmp =>
    obtain rfl : len = 1 := hlen.resolve_right (fun z => absurd (show (1 : Nat) = 0 from z) (by decide))
    have h : (match (generalizing := false) S with | .long yy :: .long x :: t => some (none, L, Value.int (lg_cmp x yy) :: t, I) | _ => none) = some (g, L', S', I') := h
    split at h
    next x t => cases h; exact W.lcmp hx hb hd (kk H locs ls hR hl)
    all_goals cases h
  case dup =>
    obtain rfl : len = 1 := hlen.resolve_right (fun z => absurd (show (1 : Nat) = 0 from z) (by decide))
    have h : ny_dup L S I = some (g, L', S', I') := h
    unfold ny_dup at h
    split at h
    next x t => cases h; exact lv_dup hx hb hd rfl (kk H locs ls hR hl)
    next x t => cases h; exact lv_dup hx hb hd (by rw [ny_v_cat]; rfl) (kk H locs ls hR hl)
    all_goals cases h
  case dup2 =>
    obtain rfl : len = 1 := hlen.resolve_right (fun z => absurd (show (1 : Nat) = 0 from z) (by decide))
    have h : ny_dup2 L S I = some (g, L', S', I') := h
    unfold ny_dup2 at h
    split at h
    next x oo t => cases h; exact lv_dup2_11 hx hb hd rfl (by rw [ny_v_cat]; rfl) (kk H locs ls hR hl)
    all_goals cases h
  case pop =>
    obtain rfl : len = 1 := hlen.resolve_right (fun z => absurd (show (1 : Nat) = 0 from z) (by decide))
    have h : ny_pop L S I = some (g, L', S', I') := h
    unfold ny_pop at h
    split at h
    next x t => cases h; exact lv_pop hx hb hd rfl (kk H locs ls hR hl)
    all_goals cases h
  case getfield nn =>
    obtain rfl : len = 3 := hlen.resolve_right (fun z => absurd (show (3 : Nat) = 0 from z) (by decide))
    exact ny_w_gf (cc := y.2.1) C ho hcn hR hok hd h hg (fun e1 e2 => by subst e1; subst e2; exact kk H locs ls hR hl)
  case putfield nn =>
    obtain rfl : len = 3 := hlen.resolve_right (fun z => absurd (show (3 : Nat) = 0 from z) (by decide))
    exact ny_w_pf C ho hcn hR hok hd h hg (fun H1 l1 e1 hR1 => by subst e1; exact kk H1 l1 ls hR1 hl)
  case iaload =>
    obtain rfl : len = 1 := hlen.resolve_right (fun z => absurd (show (1 : Nat) = 0 from z) (by decide))
    exact ny_w_iald C hR hd h hg (fun e1 e2 => by subst e1; subst e2; exact kk H locs ls hR hl)
  case baload =>
    obtain rfl : len = 1 := hlen.resolve_right (fun z => absurd (show (1 : Nat) = 0 from z) (by decide))
    exact ny_w_bald C hR hd h hg (fun e1 e2 => by subst e1; subst e2; exact kk H locs ls hR hl)
  case aaload =>
    obtain rfl : len = 1 := hlen.resolve_right (fun z => absurd (show (1 : Nat) = 0 from z) (by decide))
    exact ny_w_aald C hR hd h hg (fun e1 e2 => by subst e1; subst e2; exact kk H locs ls hR hl)
  case arraylength =>
    obtain rfl : len = 1 := hlen.resolve_right (fun z => absurd (show (1 : Nat) = 0 from z) (by decide))
    exact ny_w_alen C hR hd h hg (fun e1 e2 => by subst e1; subst e2; exact kk H locs ls hR hl)
  case iastore =>
    obtain rfl : len = 1 := hlen.resolve_right (fun z => absurd (show (1 : Nat) = 0 from z) (by decide))
    exact ny_w_iast C hR hd h hg (fun H1 l1 e1 hR1 => by subst e1; exact kk H1 l1 ls hR1 hl)
  case bastore =>
    obtain rfl : len = 1 := hlen.resolve_right (fun z => absurd (show (1 : Nat) = 0 from z) (by decide))
    exact ny_w_bast C hR hd h hg (fun H1 l1 e1 hR1 => by subst e1; exact kk H1 l1 ls hR1 hl)
  case getstatic nn =>
    obtain rfl : len = 3 := hlen.resolve_right (fun z => absurd (show (3 : Nat) = 0 from z) (by decide))
    have h : (match (generalizing := false) a with | 1 => some (none, L, Value.ref 1 :: S, I) | 2 => some (none, L, .int 1 :: S, I) | 3 => some (none, L, .ref 4 :: S, I) | _ => none) = some (g, L', S', I') := h
    have hok : (match (generalizing := false) a with | 1 => ny_mem (.fieldLink y.1.cls nn "NymphRota$Kinds" "ABOVE" "[I") | 2 => ny_mem (.fieldLink y.1.cls nn "java/lang/String" "COMPACT_STRINGS" "Z") | 3 => ny_mem (.fieldLink y.1.cls nn "jdk/internal/util/Preconditions" "SIOOBE_FORMATTER" "Ljava/util/function/BiFunction;") | _ => false) = true := hok
    split at h
    · cases h; have kk := kk H locs ls hR hl; rw [List.map_cons, ny_refs (by decide)] at kk; exact va_gets hx hb hX.2.2.2.1 hR.2.1 hown (hts _ (ny_mem_tb hok)) (fun _ h => h) hd kk
    · cases h; exact va_gets hx hb hX.2.2.2.2.1 hR.2.1 hown (hts _ (ny_mem_tb hok)) (fun _ h => h) hd (kk H locs ls hR hl)
    · cases h; exact va_gets hx hb hX.2.2.2.2.2.1 hR.2.1 hown (hts _ (ny_mem_tb hok)) (fun _ h => h) hd (kk H locs ls hR hl)
    · cases h
  case invokestatic nn =>
    obtain rfl : len = 3 := hlen.resolve_right (fun z => absurd (show (3 : Nat) = 0 from z) (by decide))
    exact ny_w_inv C hR hl.1 hkm hnm hok hd h hg (fun H1 l1 e1 hR1 => by subst e1; exact kk H1 l1 ls hR1 hl)
  all_goals cases h
end NYOK
