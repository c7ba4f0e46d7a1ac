theorem ny_lt5 {o : Nat} (h : o < 5) : o = 0 ∨ o = 1 ∨ o = 2 ∨ o = 3 ∨ o = 4 := by omega
section NYX
variable {p : Program} {l : Launch} {e : Env} {Rm : Room} {s : State} {m : MethodId} {args : Array Value} {below : List Frame} {meth : Method} {c : Code} {H : Heap} {locs : List Loc} {ls : Array Slot} {Q : State → Prop} {E : ny_E} {d mc ms k n : Nat} {K : ny_K} {R : ny_R} {I : ny_I} {y : ny_M}
theorem ny_w_pf {own : Nat} {index a b pc : Nat} {S' S : List Value} {L L' : ny_Lc} {I' : ny_I} {g : Option Bool} (C : ny_C E p s m args meth c y Rm d mc ms) (ho : own < 18) (hcn : ny_cn.getD own "" = y.1.cls) (hR : ny_Rl E K I R s H locs k)
    (hok : (ny_FL.getD own []).contains (index, a, b) = true)
    (hd : decode y.2.1 pc = .ok (.putfield index, 3)) (h : ny_pf L S I K a b = some (g, L', S', I')) (hg : ∀ b, g = some b → b = true)
    (kk : ∀ H' locs', L' = L → ny_Rl E K I' R s H' locs' k → W p l e Rm s m args below meth c H' locs' k n Q (F0 m (pc + 3) ls (S'.map (ny_v E)))) : W p l e Rm s m args below meth c H locs k n Q (F0 m pc ls (S.map (ny_v E))) := by
  obtain ⟨hx, hb, hr, hml, hown, hts, hlk, hin, hf1, hf2, hc, hs, ⟨hK, hN⟩, hX, hsz⟩ := C
  obtain ⟨hP, hS, hz⟩ := id hR
  obtain ⟨hfl, ha, hbk, hkind⟩ := ny_fl_of ho hok
  have hlink := hts _ hfl
  unfold ny_fl at hlink
  rw [hcn] at hlink
  have hcls := ny_cls_at a ha
  obtain ⟨-, hint, hboo⟩ := ny_fd_ok a ha (b / 3) hbk
  unfold ny_pf at h
  split at h
  next x o t =>
    have core : (∀ ty : FieldType, ny_ty a (b / 3) = ty → (ny_T a (b / 3)).2.2.2 = false → (ny_Ks.getD a []).getD (b / 3) 9 ≠ 1 → narrow ty (.int x) = .int x → fits ty (.int x) = true → ny_kd K o (0, a) = true → L' = L → S' = t → I' = ny_up I o (b / 3) x →
        W p l e Rm s m args below meth c H locs k n Q (F0 m pc ls ((Value.int x :: .ref o :: t).map (ny_v E)))) := by
      intro ty hty hfin hk1 hn hfit hkd hL hS' hI
      obtain ⟨h5, hws⟩ := ny_obj hP ha hkd
      rw [List.map_cons, List.map_cons, ny_ref h5]
      subst hL; subst hS'; subst hI
      refine va_put (ref := (ny_T a (b / 3)).1) hx hb hts (ny_lay hcls) (ny_ty a) (ny_ty_ok a ha) (fun i hi j hj => ny_nm_ok a ha i hi j hj) hown hK hP.2.2.2.2 (ny_ws_D E K I R) hS (o - 5) hws hcls (b / 3) hbk hlink (fun _ h9 => h9) hfin
        (ty := ty) (by rw [← hty]; exact ny_ty_ok a ha (b / 3) hbk) hn hfit (by rw [ny_fs_len]; exact hbk) hd (fun H1 locs1 hP1 hD1 hS1 => ?_)
      refine kk H1 locs1 rfl (ny_put hR h5 (of_decide_eq_true hkd) (ny_upn I o (b / 3) x) ?_ hP1 hS1)
      show Sum.inr (a, (ny_fs E a (I o) (R o)).set (b / 3) (.int x)) = Sum.inr (a, ny_fs E a (ny_up I o (b / 3) x o) (R o))
      rw [ny_upo, ny_fs_set E a (I o) (R o) hbk x hk1]
    split at h
    next hb3 =>
      injection h with h
      injection h with h1 h
      injection h with h2 h
      injection h with h3 h4
      have hk := hg _ h1.symm
      rw [Bool.and_eq_true] at hk
      rw [hb3] at hkind
      exact core .int (hint hkind).1 (hint hkind).2 (by rw [hkind]; decide) rfl rfl hk.1 h2.symm h3.symm h4.symm
    next hb3 =>
      injection h with h
      injection h with h1 h
      injection h with h2 h
      injection h with h3 h4
      have hk := hg _ h1.symm
      simp only [Bool.and_eq_true, Bool.or_eq_true, decide_eq_true_eq] at hk
      rw [hb3] at hkind
      have hb01 : narrow .boolean (.int x) = .int x ∧ fits .boolean (.int x) = true := by
        rcases hk.2 with rfl | rfl <;> exact ⟨by decide +kernel, by decide +kernel⟩
      exact core .boolean (hboo hkind).1 (hboo hkind).2 (by rw [hkind]; decide) hb01.1 hb01.2 hk.1.1 h2.symm h3.symm h4.symm
    next => cases h
  next => cases h
theorem ny_tys0 (E : ny_E) : (ny_tys E)[0]? = some (E.2.1 0, .int) := rfl
theorem ny_tys1 (E : ny_E) : (ny_tys E)[1]? = some (E.2.1 1, .byte) := rfl
theorem ny_k5_1 {E : ny_E} {o n : Nat} (h5 : o < 5) (h : (ny_k5 E)[o]? = some (1, n)) : (o = 0 ∧ n = ny_Ln E) ∨ (o = 1 ∧ n = 6) := by
  rcases ny_lt5 h5 with rfl | rfl | rfl | rfl | rfl <;> simp [ny_k5] at h
  · exact Or.inl ⟨rfl, h.symm⟩
  · exact Or.inr ⟨rfl, h.symm⟩
theorem ny_k5_2 {E : ny_E} {o n : Nat} (h5 : o < 5) (h : (ny_k5 E)[o]? = some (2, n)) : o = 3 ∧ n = 105 := by
  rcases ny_lt5 h5 with rfl | rfl | rfl | rfl | rfl <;> simp [ny_k5] at h
  exact ⟨rfl, h.symm⟩
theorem ny_w_iald {pc : Nat} {S' S : List Value} {L L' : ny_Lc} {I' : ny_I} {g : Option Bool} (C : ny_C E p s m args meth c y Rm d mc ms) (hR : ny_Rl E K I R s H locs k)
    (hd : decode y.2.1 pc = .ok (.iaload, 1)) (h : ny_iald L S I K = some (g, L', S', I')) (hg : ∀ b, g = some b → b = true)
    (kk : L' = L → I' = I → W p l e Rm s m args below meth c H locs k n Q (F0 m (pc + 1) ls (S'.map (ny_v E)))) : W p l e Rm s m args below meth c H locs k n Q (F0 m pc ls (S.map (ny_v E))) := by
  obtain ⟨hx, hb, hr, hml, hown, hts, hlk, hin, hf1, hf2, hc, hs, ⟨hK, hN⟩, hX, hsz⟩ := C
  obtain ⟨hP, hS, hz⟩ := hR
  unfold ny_iald at h
  split at h
  next j o t =>
    injection h with h
    injection h with h1 h
    injection h with h2 h
    injection h with h3 h4
    obtain ⟨nn, hk, hj⟩ := ny_ar_of (hg _ h1.symm)
    subst h2; subst h3; subst h4
    have kk := kk rfl rfl
    rcases Nat.lt_or_ge o 5 with h5 | h5
    · have hk2 := hk
      rw [ny_low hP h5] at hk2
      rcases ny_k5_1 h5 hk2 with ⟨rfl, rfl⟩ | ⟨rfl, rfl⟩
      · rw [List.map_cons, hP.2.1] at kk
        exact va_sld (A := ny_A E) hx hb hX.1 (Nat.lt_of_lt_of_le hX.2.1 hsz) (Nat.not_le.mpr hX.2.1) hS hj hd kk
      · rw [List.map_cons, hP.2.2.1] at kk
        exact va_ti hx hb hX.2.2.1 hS hj rfl hd kk
    · have hws := ny_ws_get E I R h5 hk
      rw [List.map_cons, List.map_cons, ny_ref h5]
      exact va_iald hx hb hK hP.2.2.2.2 (o - 5) 0 hws (ny_tys0 E) hj hd kk
  next => cases h
theorem ny_w_bald {pc : Nat} {S' S : List Value} {L L' : ny_Lc} {I' : ny_I} {g : Option Bool} (C : ny_C E p s m args meth c y Rm d mc ms) (hR : ny_Rl E K I R s H locs k)
    (hd : decode y.2.1 pc = .ok (.baload, 1)) (h : ny_bald L S I K = some (g, L', S', I')) (hg : ∀ b, g = some b → b = true)
    (kk : L' = L → I' = I → W p l e Rm s m args below meth c H locs k n Q (F0 m (pc + 1) ls (S'.map (ny_v E)))) : W p l e Rm s m args below meth c H locs k n Q (F0 m pc ls (S.map (ny_v E))) := by
  obtain ⟨hx, hb, hr, hml, hown, hts, hlk, hin, hf1, hf2, hc, hs, ⟨hK, hN⟩, hX, hsz⟩ := C
  obtain ⟨hP, hS, hz⟩ := hR
  unfold ny_bald at h
  split at h
  next j o t =>
    injection h with h
    injection h with h1 h
    injection h with h2 h
    injection h with h3 h4
    obtain ⟨nn, hk, hj⟩ := ny_ar_of (hg _ h1.symm)
    subst h2; subst h3; subst h4
    have kk := kk rfl rfl
    rcases Nat.lt_or_ge o 5 with h5 | h5
    · have hk2 := hk
      rw [ny_low hP h5] at hk2
      obtain ⟨rfl, rfl⟩ := ny_k5_2 h5 hk2
      rw [List.map_cons, hP.2.2.2.1.2.1] at kk
      have hsv := (hX.2.2.2.2.2.2.2).1 0 (by decide)
      exact va_tb (N := 105) hx hb hsv.2.2.2 hS hj rfl hd kk
    · have hws := ny_ws_get E I R h5 hk
      rw [List.map_cons, List.map_cons, ny_ref h5]
      exact va_bald hx hb hK hP.2.2.2.2 (o - 5) 1 hws (ny_tys1 E) hj hd kk
  next => cases h
theorem ny_aw_of {t o : Nat} {j : Int32} (h : ny_aw K t o j = true) : 5 ≤ o ∧ ∃ n, K[o]? = some (t, n) ∧ vp_in j n := by
  unfold ny_aw at h
  simp only [Bool.and_eq_true, decide_eq_true_eq] at h
  exact ⟨h.2, ny_ar_of h.1⟩
theorem ny_w_iast {pc : Nat} {S' S : List Value} {L L' : ny_Lc} {I' : ny_I} {g : Option Bool} (C : ny_C E p s m args meth c y Rm d mc ms) (hR : ny_Rl E K I R s H locs k)
    (hd : decode y.2.1 pc = .ok (.iastore, 1)) (h : ny_iast L S I K = some (g, L', S', I')) (hg : ∀ b, g = some b → b = true)
    (kk : ∀ H' locs', L' = L → ny_Rl E K I' R s H' locs' k → W p l e Rm s m args below meth c H' locs' k n Q (F0 m (pc + 1) ls (S'.map (ny_v E)))) : W p l e Rm s m args below meth c H locs k n Q (F0 m pc ls (S.map (ny_v E))) := by
  obtain ⟨hx, hb, hr, hml, hown, hts, hlk, hin, hf1, hf2, hc, hs, ⟨hK, hN⟩, hX, hsz⟩ := C
  obtain ⟨hP, hS, hz⟩ := id hR
  unfold ny_iast at h
  split at h
  next x j o t =>
    injection h with h
    injection h with h1 h
    injection h with h2 h
    injection h with h3 h4
    obtain ⟨h5, nn, hk, hj⟩ := ny_aw_of (hg _ h1.symm)
    subst h2; subst h3; subst h4
    have hws := ny_ws_get E I R h5 hk
    rw [List.map_cons, List.map_cons, List.map_cons, ny_ref h5]
    refine va_iast hx hb hK hP.2.2.2.2 (ny_ws_D E K I R) hS (o - 5) 0 hws (ny_tys0 E) hj hd (fun H1 locs1 hP1 hD1 hS1 => ?_)
    refine kk H1 locs1 rfl (ny_put hR h5 hk (ny_upn I o j.toNatClampNeg x) ?_ hP1 hS1)
    rw [ny_upo]
    rfl
  next => cases h
theorem ny_w_bast {pc : Nat} {S' S : List Value} {L L' : ny_Lc} {I' : ny_I} {g : Option Bool} (C : ny_C E p s m args meth c y Rm d mc ms) (hR : ny_Rl E K I R s H locs k)
    (hd : decode y.2.1 pc = .ok (.bastore, 1)) (h : ny_bast L S I K = some (g, L', S', I')) (hg : ∀ b, g = some b → b = true)
    (kk : ∀ H' locs', L' = L → ny_Rl E K I' R s H' locs' k → W p l e Rm s m args below meth c H' locs' k n Q (F0 m (pc + 1) ls (S'.map (ny_v E)))) : W p l e Rm s m args below meth c H locs k n Q (F0 m pc ls (S.map (ny_v E))) := by
  obtain ⟨hx, hb, hr, hml, hown, hts, hlk, hin, hf1, hf2, hc, hs, ⟨hK, hN⟩, hX, hsz⟩ := C
  obtain ⟨hP, hS, hz⟩ := id hR
  unfold ny_bast at h
  split at h
  next x j o t =>
    injection h with h
    injection h with h1 h
    injection h with h2 h
    injection h with h3 h4
    obtain ⟨h5, nn, hk, hj⟩ := ny_aw_of (hg _ h1.symm)
    subst h2; subst h3; subst h4
    have hws := ny_ws_get E I R h5 hk
    rw [List.map_cons, List.map_cons, List.map_cons, ny_ref h5]
    refine va_bast hx hb hK hP.2.2.2.2 (ny_ws_D E K I R) hS (o - 5) 1 hws (ny_tys1 E) hj hd (fun H1 locs1 hP1 hD1 hS1 => ?_)
    refine kk H1 locs1 rfl (ny_put hR h5 hk (ny_upn I o j.toNatClampNeg x.toInt8.toInt32) ?_ hP1 hS1)
    rw [ny_upo, vp_nar_byte]
    rfl
  next => cases h
theorem ny_ra_of {o : Nat} {j : Int32} (h : ny_ra K o j = true) : ∃ t n, t < 4 ∧ K[o]? = some (t + 3, n) ∧ vp_in j n := by
  unfold ny_ra at h
  split at h
  next q hq =>
    simp only [Bool.and_eq_true, decide_eq_true_eq] at h
    refine ⟨q.1 - 3, q.2, by omega, ?_, ny_in_of h.2⟩
    rw [hq, show q.1 - 3 + 3 = q.1 by omega]
  next => cases h
theorem ny_tysr (E : ny_E) : ∀ t, t < 4 → ∃ ty : FieldType, (ny_tys E)[t + 2]? = some (E.2.1 (t + 2), ty) ∧ ty.isReference = true := by
  intro t ht
  match t, ht with
  | 0, _ => exact ⟨_, rfl, rfl⟩
  | 1, _ => exact ⟨_, rfl, rfl⟩
  | 2, _ => exact ⟨_, rfl, rfl⟩
  | 3, _ => exact ⟨_, rfl, rfl⟩
theorem ny_w_aald {pc : Nat} {S' S : List Value} {L L' : ny_Lc} {I' : ny_I} {g : Option Bool} (C : ny_C E p s m args meth c y Rm d mc ms) (hR : ny_Rl E K I R s H locs k)
    (hd : decode y.2.1 pc = .ok (.aaload, 1)) (h : ny_aald L S I K R = some (g, L', S', I')) (hg : ∀ b, g = some b → b = true)
    (kk : L' = L → I' = I → W p l e Rm s m args below meth c H locs k n Q (F0 m (pc + 1) ls (S'.map (ny_v E)))) : W p l e Rm s m args below meth c H locs k n Q (F0 m pc ls (S.map (ny_v E))) := by
  obtain ⟨hx, hb, hr, hml, hown, hts, hlk, hin, hf1, hf2, hc, hs, ⟨hK, hN⟩, hX, hsz⟩ := C
  obtain ⟨hP, hS, hz⟩ := hR
  unfold ny_aald at h
  split at h
  next j o t =>
    injection h with h
    injection h with h1 h
    injection h with h2 h
    injection h with h3 h4
    have hg2 := hg _ h1.symm
    rw [Bool.and_eq_true] at hg2
    obtain ⟨tt, nn, ht4, hk, hj⟩ := ny_ra_of hg2.1
    obtain ⟨z, hz2, hz4⟩ := ny_rs_of hg2.2
    subst h2; subst h3; subst h4
    have kk := kk rfl rfl
    rcases Nat.lt_or_ge o 5 with h5 | h5
    · exfalso
      rw [ny_low hP h5] at hk
      rcases ny_lt5 h5 with rfl | rfl | rfl | rfl | rfl <;> simp [ny_k5] at hk
      omega
    · have hws := ny_ws_get E I R h5 hk
      rw [List.map_cons, List.map_cons, ny_ref h5]
      rw [List.map_cons, hz2, show ny_v E (.ref ((some z).getD 0)) = .ref (ny_ph E z) from ny_refs hz4] at kk
      obtain ⟨ty, hty, hty2⟩ := ny_tysr E tt ht4
      have hlt : j.toNatClampNeg < nn := Nat.not_le.mp fun q => hj (Or.inr q)
      have hcell := hP.2.2.2.2 _ _ hws
      refine W.aald (v := .ref (ny_ph E z)) (ty := ty) hx hb hcell ((hK.2 (tt + 2) _ hty).1 nn (fun j => va_rf ((R o j).map (ny_ph E)))) hty2 (fun q => by cases q) (by show ¬ (j < 0 ∨ (arrV _ _ _).slots.size ≤ _); rw [arrV_size]; exact hj) ?_ rfl rfl hd kk
      show (arrV _ _ _).slots[_]? = _
      rw [arrV_read _ _ hlt]
      show some (va_rf ((R o j.toNatClampNeg).map (ny_ph E))) = _
      rw [hz2]
      rfl
  next => cases h
theorem ny_w_alen {pc : Nat} {S' S : List Value} {L L' : ny_Lc} {I' : ny_I} {g : Option Bool} (C : ny_C E p s m args meth c y Rm d mc ms) (hR : ny_Rl E K I R s H locs k)
    (hd : decode y.2.1 pc = .ok (.arraylength, 1)) (h : ny_alen L S I K = some (g, L', S', I')) (hg : ∀ b, g = some b → b = true)
    (kk : L' = L → I' = I → W p l e Rm s m args below meth c H locs k n Q (F0 m (pc + 1) ls (S'.map (ny_v E)))) : W p l e Rm s m args below meth c H locs k n Q (F0 m pc ls (S.map (ny_v E))) := by
  obtain ⟨hx, hb, hr, hml, hown, hts, hlk, hin, hf1, hf2, hc, hs, ⟨hK, hN⟩, hX, hsz⟩ := C
  obtain ⟨hP, hS, hz⟩ := hR
  unfold ny_alen at h
  split at h
  next o t =>
    injection h with h
    injection h with h1 h
    injection h with h2 h
    injection h with h3 h4
    have hg2 := hg _ h1.symm
    subst h2; subst h3; subst h4
    have kk := kk rfl rfl
    unfold ny_la at hg2
    split at hg2
    next q hq =>
      have hln : ny_ln K o = q.2 := by
        unfold ny_ln
        rw [List.getD_eq_getElem?_getD, hq]
        rfl
      rw [List.map_cons, hln] at kk
      obtain ⟨q1, q2⟩ := q
      simp only [Bool.or_eq_true, decide_eq_true_eq] at hg2
      rcases Nat.lt_or_ge o 5 with h5 | h5
      · have hk2 := hq
        rw [ny_low hP h5] at hk2
        rcases hg2 with rfl | rfl
        · rcases ny_k5_1 h5 hk2 with ⟨rfl, rfl⟩ | ⟨rfl, rfl⟩
          · exact va_slen (A := ny_A E) hx hb hX.1 (Nat.lt_of_lt_of_le hX.2.1 hsz) (Nat.not_le.mpr hX.2.1) hS hd kk
          · exact va_tlen hx hb hX.2.2.1 hS rfl hd kk
        · obtain ⟨rfl, rfl⟩ := ny_k5_2 h5 hk2
          have hsv := (hX.2.2.2.2.2.2.2).1 0 (by decide)
          exact va_tlen (N := 105) hx hb hsv.2.2.2 hS rfl hd kk
      · have hws := ny_ws_get E I R h5 hq
        rw [List.map_cons, ny_ref h5]
        rcases hg2 with rfl | rfl
        · exact va_alen hx hb hK hP.2.2.2.2 (o - 5) 0 hws (ny_tys0 E) rfl hd kk
        · exact va_alen hx hb hK hP.2.2.2.2 (o - 5) 1 hws (ny_tys1 E) rfl hd kk
    next => cases hg2
  next => cases h
end NYX
