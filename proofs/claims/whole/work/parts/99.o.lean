/-! the constructors: what the program says, the machine does -/
theorem ny_ini_at : ∀ (ci : Nat) (z : ny_M), ny_ini[ci]? = some z → ci < 11 ∧ ny_chk ci z = true ∧ ny_zi z 0 = true ∧ z.2.2.2.1 = none ∧ 1 ≤ z.2.2.1
  | 0, _, h => by cases h; exact ⟨by decide, k_Ac_init, z_Ac_init, rfl, by decide⟩
  | 1, _, h => by cases h; exact ⟨by decide, k_Ba_init, z_Ba_init, rfl, by decide⟩
  | 2, _, h => by cases h; exact ⟨by decide, k_Mo_init, z_Mo_init, rfl, by decide⟩
  | 3, _, h => by cases h; exact ⟨by decide, k_Pl_init, z_Pl_init, rfl, by decide⟩
  | 4, _, h => by cases h; exact ⟨by decide, k_Re_init, z_Re_init, rfl, by decide⟩
  | 5, _, h => by cases h; exact ⟨by decide, k_Ru_init, z_Ru_init, rfl, by decide⟩
  | 6, _, h => by cases h; exact ⟨by decide, k_Sh_init, z_Sh_init, rfl, by decide⟩
  | 7, _, h => by cases h; exact ⟨by decide, k_Sf_init, z_Sf_init, rfl, by decide⟩
  | 8, _, h => by cases h; exact ⟨by decide, k_Ta_init, z_Ta_init, rfl, by decide⟩
  | 9, _, h => by cases h; exact ⟨by decide, k_No_init, z_No_init, rfl, by decide⟩
  | 10, _, h => by cases h; exact ⟨by decide, k_Md_init, z_Md_init, rfl, by decide⟩
  | _ + 11, _, h => by cases h
theorem ny_oi_ok : ∀ own, own < 11 → ny_mem (.methodLink (ny_cn.getD own "") (ny_oi.getD own 0) Lib.objectInit) = true := by decide +kernel
theorem ny_pln_all : (ny_pln.all fun q => match ny_ini[q.2.2]? with
  | some z => ny_mem (.methodLink (ny_cn.getD q.1 "") q.2.1 z.1)
  | none => false) = true := by decide +kernel
theorem ny_nst_all : (ny_nst.all fun q => match ny_ini[q.2.2]? with
  | some z => decide ((ny_cn.getD q.1 "", q.2.1, z.1, "NymphRota") ∈ ny_nest)
  | none => false) = true := by decide +kernel
theorem ny_lk_ok {own i ci : Nat} {z : ny_M} (hz : ny_ini[ci]? = some z) (h : (ny_pln.contains (own, i, ci) || ny_nst.contains (own, i, ci)) = true) : ny_mem (.methodLink (ny_cn.getD own "") i z.1) = true ∨ ∃ host, (ny_cn.getD own "", i, z.1, host) ∈ ny_nest := by
  rw [Bool.or_eq_true] at h
  rcases h with h | h
  · have h1 := List.all_eq_true.mp ny_pln_all _ (List.contains_iff_mem.mp h)
    simp only [hz] at h1
    exact Or.inl h1
  · have h1 := List.all_eq_true.mp ny_nst_all _ (List.contains_iff_mem.mp h)
    simp only [hz, decide_eq_true_eq] at h1
    exact Or.inr ⟨_, h1⟩
/-- the end of a constructor that has made m1 cells and written ws1, rs1 -/
def ny_en (Ln : Nat) (I0 : ny_I) (u : Nat × Nat × ny_ww × ny_wr) : ny_Q := ny_rn (ny_Kt Ln u.1) (ny_Iw I0 u.2.2.1) (ny_Rw u.2.2.2)
def ny_okv (Ln : Nat) (I0 : ny_I) (d : Nat) (y : ny_M) (pc : Nat) (L : ny_Lc) (S : List Value) (m n : Nat) (ws : ny_ww) (rs : ny_wr) (u : Nat × Nat × ny_ww × ny_wr) : Prop :=
  (m ≤ u.1 ∧ n ≤ u.2.1 ∧ u.1 ≤ 120) ∧ ∀ mc ms k nn, mc + m = k + u.1 → ms + n = nn + u.2.1 → ny_J d mc ms y pc L S (ny_Kt Ln m) (ny_Iw I0 ws) (ny_Rw rs) k nn (ny_en Ln I0 u)
theorem ny_ev_ok {Ln : Nat} {I0 : ny_I} (h0 : ∀ c, 5 ≤ c → I0 c = fun _ => 0) : ∀ (f d own : Nat) (y : ny_M) (pc : Nat) (L : ny_Lc) (S : List Value) (m n : Nat) (ws : ny_ww) (rs : ny_wr) (u : Nat × Nat × ny_ww × ny_wr),
    f ≤ d → ny_chk own y = true → y.2.2.2.1 = none → 5 ≤ m → m ≤ 120 → ny_ev f own y pc L S m n ws rs = some u → ny_okv Ln I0 d y pc L S m n ws rs u := by
  intro f
  induction f with
  | zero => intro d own y pc L S m n ws rs u _ _ _ _ _ h; cases h
  | succ f ih =>
    intro d own y pc L S m n ws rs u hfd hy hret h5 hm h
    obtain ⟨d, rfl⟩ : ∃ d', d = d' + 1 := ⟨d - 1, by omega⟩
    have hfd' : f ≤ d + 1 := by omega
    have hlen := ny_Kt_len (Ln := Ln) hm
    replace h : ny_evb (ny_ev f) own y pc L S m n ws rs = some u := h
    unfold ny_evb at h
    split at h
    next => cases h
    next q hfind =>
      have hq : q ∈ y.2.2.2.2.2 := List.mem_of_find?_eq_some hfind
      have hpc : q.1 = pc := by
        have h1 := List.find?_some hfind
        exact Nat.eq_of_beq_eq_true h1
      subst hpc
      obtain ⟨⟨hcn, hown18⟩, hd, hok⟩ := ny_dcm hy hq
      split at h
      next hins =>
        split at h
        next =>
          cases h
          refine ⟨⟨Nat.le_refl _, Nat.le_refl _, hm⟩, fun mc ms k nn e1 e2 => ?_⟩
          obtain rfl : mc = k := Nat.add_right_cancel e1
          intro p l e Rm s mm args below meth c H locs ls Q E C hAO hk hn hR hl hend
          obtain ⟨pc, len, ins, a, b, v, w⟩ := q
          obtain rfl : ins = .return_ := hins
          obtain rfl := ny_len_of (x := 1) hok rfl (by decide)
          exact W.widen (Nat.le_refl _) hn (hend none _ _ _ H locs pc ls ⟨rfl, rfl, rfl, rfl⟩ hR ⟨hd, hret⟩)
        next => cases h
      next i hins =>
        split at h
        next o t =>
          split at h
          next => cases h
          next hb =>
            simp only [Bool.and_eq_true] at hb
            have ht4 := Nat.le_of_ble_eq_true hb.1.1
            have ho5 := Nat.le_of_ble_eq_true hb.1.2
            have ho11 : own < 11 := Nat.le_of_ble_eq_true hb.2
            have hd3 : decode y.2.1 q.1 = .ok (.invokespecial i, 3) := by
              obtain ⟨pc, len, ins, a, b, v, w⟩ := q
              obtain rfl : ins = .invokespecial i := hins
              obtain rfl := ny_len_of (x := 3) hok rfl (by decide)
              exact hd
            split at h
            next hoi =>
              obtain ⟨g1, g2⟩ := ih (d + 1) own y (q.1 + 3) L t m n ws rs u hfd' hy hret h5 hm h
              refine ⟨g1, fun mc ms k nn e1 e2 => ?_⟩
              intro p l e Rm s mm args below meth c H locs ls Q E C hAO hk hn hR hl hend
              refine ny_w_obj C ?_ hd3 hl.1 ht4 ho5 (g2 mc ms k nn e1 e2 p l e Rm s mm args below meth c H locs ls Q E C hAO hk hn hR hl hend)
              rw [← hcn, ← Nat.eq_of_beq_eq_true hoi]
              exact ny_oi_ok own ho11
            next hoi =>
              split at h
              next => cases h
              next r hr =>
                split at h
                next => cases h
                next hl0 =>
                  rw [Bool.and_eq_true] at hl0
                  split at h
                  next => cases h
                  next z hz =>
                    obtain ⟨hz1, hz2, hz3, hz4, hz5⟩ := ny_ini_at r.2 z hz
                    split at h
                    next => cases h
                    next u2 hu2 =>
                      obtain ⟨⟨c1, c2, c3⟩, c4⟩ := ih d r.2 z 0 [(0, .ref o)] [] m n ws rs u2 (by omega) hz2 hz4 h5 hm hu2
                      obtain ⟨⟨g1, g2, g3⟩, g4⟩ := ih (d + 1) own y (q.1 + 3) L t u2.1 u2.2.1 u2.2.2.1 u2.2.2.2 u hfd' hy hret (by omega) c3 h
                      refine ⟨⟨by omega, by omega, g3⟩, fun mc ms k nn e1 e2 => ?_⟩
                      intro p l e Rm s mm args below meth c H locs ls Q E C hAO hk hn hR hl hend
                      have hcall : ny_Cal d (u2.1 - m) (u2.2.1 - n) z [.ref o] (ny_Kt Ln m) (ny_Iw I0 ws) (ny_Rw rs) (ny_en Ln I0 u2) := by
                        have hz3' := hz3
                        simp only [ny_zi, ny_zb, Bool.and_eq_true, decide_eq_true_eq] at hz3'
                        exact ny_enter2 hz3'.1.1.1.1.1.1.2 (fun _ => hz3'.1.2) hz5 (c4 _ _ 0 0 (by omega) (by omega))
                      have hlk := ny_lk_ok hz hl0.2
                      rw [hcn] at hlk
                      exact ny_w_callI C hAO hz3 hlk ho5 hd3 hl.1 hR ⟨by omega, by omega⟩ ht4 hcall fun H' locs' hR' => g4 mc ms (k + (u2.1 - m)) (nn + (u2.2.1 - n)) (by omega) (by omega) p l e Rm s mm args below meth c H' locs' ls Q E C hAO (by omega) (by omega) hR' hl hend
        next => cases h
      next i hins =>
        split at h
        next x o t =>
          split at h
          next => cases h
          next hb =>
            simp only [Bool.and_eq_true] at hb
            have ht4 := Nat.le_of_ble_eq_true hb.1.1
            have hown : own = 1 := Nat.eq_of_beq_eq_true hb.1.2
            have hi67 : i = 67 := Nat.eq_of_beq_eq_true hb.2
            have hd3 : decode y.2.1 q.1 = .ok (.invokestatic i, 3) := by
              obtain ⟨pc, len, ins, a, b, v, w⟩ := q
              obtain rfl : ins = .invokestatic i := hins
              obtain rfl := ny_len_of (x := 3) hok rfl (by decide)
              exact hd
            split at h
            next => cases h
            next u2 hu2 =>
              obtain ⟨⟨c1, c2, c3⟩, c4⟩ := ih d 15 m_Ja_fill 0 [(0, .ref o), (1, .int x)] [] m n ws rs u2 (by omega) k_Ja_fill rfl h5 hm hu2
              obtain ⟨⟨g1, g2, g3⟩, g4⟩ := ih (d + 1) own y (q.1 + 3) L t u2.1 u2.2.1 u2.2.2.1 u2.2.2.2 u hfd' hy hret (by omega) c3 h
              refine ⟨⟨by omega, by omega, g3⟩, fun mc ms k nn e1 e2 => ?_⟩
              intro p l e Rm s mm args below meth c H locs ls Q E C hAO hk hn hR hl hend
              have hcall : ny_Cal d (u2.1 - m) (u2.2.1 - n) m_Ja_fill [.ref o, .int x] (ny_Kt Ln m) (ny_Iw I0 ws) (ny_Rw rs) (ny_en Ln I0 u2) :=
                ny_enter2 (by decide +kernel) (fun q => by cases q) (by show 2 ≤ 4; decide) (c4 _ _ 0 0 (by omega) (by omega))
              have hlk : ny_mem (.methodLink y.1.cls i m_Ja_fill.1) = true := by
                rw [← hcn, hown, hi67]
                exact l_Ba_67
              exact ny_w_callS (S := t) C hAO z_Ja_fill hlk rfl rfl hd3 hl.1 hR ⟨by omega, by omega⟩ ht4 hcall fun H' locs' hR' => g4 mc ms (k + (u2.1 - m)) (nn + (u2.2.1 - n)) (by omega) (by omega) p l e Rm s mm args below meth c H' locs' ls Q E C hAO (by omega) (by omega) hR' hl hend
        next => cases h
      next =>
        split at h
        next => cases h
        next Y hY =>
          obtain ⟨⟨a1, a2, a3⟩, a4⟩ := ny_es1_ok (Ln := Ln) h0 hy hq h5 hm hY
          obtain ⟨⟨g1, g2, g3⟩, g4⟩ := ih (d + 1) own y Y.1 Y.2.1 Y.2.2.1 Y.2.2.2.1 Y.2.2.2.2.1 Y.2.2.2.2.2.1 Y.2.2.2.2.2.2 u hfd' hy hret (by omega) a3 h
          refine ⟨⟨by omega, by omega, g3⟩, fun mc ms k nn e1 e2 => ?_⟩
          exact a4 (d + 1) mc ms k nn (k + (Y.2.2.2.1 - m)) (nn + (Y.2.2.2.2.1 - n)) _ (by omega) (by omega) (by omega) (by omega) (g4 mc ms _ _ (by omega) (by omega))
