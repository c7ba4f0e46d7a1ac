/-! helps for the printed walks -/
theorem ny_arg {K : ny_K} {t o n : Nat} {j : Int32} (hk : K[o]? = some (t, n)) (h : ny_in j n = true) : ny_ar K t o j = true := by
  unfold ny_ar
  rw [hk]
  simp [h]
theorem ny_awg {K : ny_K} {t o n : Nat} {j : Int32} (hk : K[o]? = some (t, n)) (h5 : Nat.ble 5 o = true) (h : ny_in j n = true) : ny_aw K t o j = true := by
  unfold ny_aw
  rw [ny_arg hk h, Bool.true_and, decide_eq_true_eq]
  exact Nat.le_of_ble_eq_true h5
theorem ny_pfg {b : Bool} {x : Int32} (hb : b = true) (h : x = 0 ∨ x = 1) : (b && (decide (x = 0) || decide (x = 1))) = true := by
  rw [hb]
  rcases h with rfl | rfl <;> rfl
theorem ny_ne {x c : Int32} {z : Int} (hz : c.toInt = z) (h : ¬ x = c) : ¬ x.toInt = z := fun e => h (Int32.toInt_inj.mp (e.trans hz.symm))
def ny_cbl (s d n1 n2 : Nat) (sp dp n : Int32) : Bool := decide (5 ≤ s) && decide (5 ≤ d) && !(decide (s = d)) && !(decide (sp < 0)) && !(decide (dp < 0)) && !(decide (n < 0)) && decide (sp.toNatClampNeg + n.toNatClampNeg ≤ n1) && decide (dp.toNatClampNeg + n.toNatClampNeg ≤ n2)
theorem ny_cbg {K : ny_K} {s d n1 n2 : Nat} {sp dp n : Int32} (h1 : K[s]? = some (1, n1)) (h2 : K[d]? = some (1, n2)) (h : ny_cbl s d n1 n2 sp dp n = true) : ny_cb K s d sp dp n = true := by
  have e : ∀ {o m : Nat}, K[o]? = some (1, m) → K.getD o (0, 0) = (1, m) := fun h => by rw [List.getD_eq_getElem?_getD, h]; rfl
  unfold ny_cb ny_ln
  rw [e h1, e h2]
  simp only [ny_cbl, Bool.and_eq_true] at h
  simp only [Bool.and_eq_true, decide_true]
  obtain ⟨⟨⟨⟨⟨⟨⟨a1, a2⟩, a3⟩, a4⟩, a5⟩, a6⟩, a7⟩, a8⟩ := h
  exact ⟨⟨⟨⟨⟨⟨⟨⟨⟨a1, a2⟩, a3⟩, trivial⟩, trivial⟩, a4⟩, a5⟩, a6⟩, a7⟩, a8⟩
/-- fewer locals, by their places -/
theorem ny_pick {L L2 : ny_Lc} (ks : List Nat) (h : ks.filterMap (fun k => L[k]?) = L2) : ∀ q ∈ L2, q ∈ L := by
  intro q hq
  rw [← h] at hq
  obtain ⟨k, -, hk⟩ := List.mem_filterMap.mp hq
  exact List.mem_of_getElem? hk
theorem ny_in_ex {j : Int32} {n : Nat} (h : ny_in j n = true) : j.toNatClampNeg < n := by
  simp only [ny_in, Bool.and_eq_true, decide_eq_true_eq] at h
  exact h.2
section NYAA
variable {d mc ms own : Nat} {y z : ny_M} {pc i a b idx na Ln : Nat} {v : Int32} {w : Int64} {L : ny_Lc} {S St av : List Value} {K : ny_K} {I : ny_I} {R : ny_R} {k n : Nat} {Ret : ny_Q} {Q1 : Int32 → ny_I → Prop} {Q0 : ny_I → Prop} {Qr : Nat → ny_I → Prop}
theorem ny_aaG {ob t nn base step : Nat} {j : Int32} (hk : K[ob]? = some (t + 3, nn)) (ht : t < 4) (hr : ∀ q, q < nn → R ob q = some (base + step * q)) (hb : 5 ≤ base) (hy : ny_chk own y = true) (hi : y.2.2.2.2.2[i]? = some (pc, 1, .aaload, a, b, v, w)) (h : ny_in j nn = true)
    (kk : ny_G d mc ms y (pc + 1) L (.ref (base + step * j.toNatClampNeg) :: S) K I R k n Ret) : ny_G d mc ms y pc L (.int j :: .ref ob :: S) K I R k n Ret := by
  refine ny_G_run hy [(pc, 1, .aaload, a, b, v, w)] pc L _ I (fun q hq => by rw [List.mem_singleton.mp hq]; exact List.mem_of_getElem? hi) ?_
  have e := hr _ (ny_in_ex h)
  have e2 : ny_ra K ob j = true := by
    unfold ny_ra
    rw [hk]
    simp only [h, Bool.and_true, Bool.and_eq_true, decide_eq_true_eq]
    omega
  have e3 : ny_rs (R ob j.toNatClampNeg) = true := by
    rw [e]
    unfold ny_rs
    simp only [Bool.not_eq_true']
    cases hb2 : Nat.beq (base + step * j.toNatClampNeg) 4 with
    | false => rfl
    | true => exact absurd (Nat.eq_of_beq_eq_true hb2) (by omega)
  have e4 : (R ob j.toNatClampNeg).getD 0 = base + step * j.toNatClampNeg := by rw [e]; rfl
  rw [← e4] at kk
  unfold ny_run
  rw [show Nat.beq ((pc, 1, Instr.aaload, a, b, v, w) : ny_Op).1 pc = true from Nat.beq_refl pc]
  exact ⟨by rw [e2, e3]; rfl, kk⟩
theorem ny_rr68 : ∀ q, q < 5 → ny_RR 68 q = some (71 + 2 * q) := by decide +kernel
theorem ny_rr86 : ∀ q, q < 4 → ny_RR 86 q = some (90 + 2 * q) := by decide +kernel
theorem ny_rr87 : ∀ q, q < 4 → ny_RR 87 q = some (98 + 1 * q) := by decide +kernel
theorem ny_rr81 : ∀ q, q < 4 → ny_RR 81 q = some (82 + 1 * q) := by decide +kernel
theorem ny_aa68 {j : Int32} (hy : ny_chk own y = true) (hi : y.2.2.2.2.2[i]? = some (pc, 1, .aaload, a, b, v, w)) (h : ny_in j 5 = true) (kk : ny_g d y (pc + 1) L (.ref (71 + 2 * j.toNatClampNeg) :: S) Ln I Ret) : ny_g d y pc L (.int j :: .ref 68 :: S) Ln I Ret := ny_aaG (t := 0) rfl (by decide) ny_rr68 (by decide) hy hi h kk
theorem ny_aa86 {j : Int32} (hy : ny_chk own y = true) (hi : y.2.2.2.2.2[i]? = some (pc, 1, .aaload, a, b, v, w)) (h : ny_in j 4 = true) (kk : ny_g d y (pc + 1) L (.ref (90 + 2 * j.toNatClampNeg) :: S) Ln I Ret) : ny_g d y pc L (.int j :: .ref 86 :: S) Ln I Ret := ny_aaG (t := 1) rfl (by decide) ny_rr86 (by decide) hy hi h kk
theorem ny_aa87 {j : Int32} (hy : ny_chk own y = true) (hi : y.2.2.2.2.2[i]? = some (pc, 1, .aaload, a, b, v, w)) (h : ny_in j 4 = true) (kk : ny_g d y (pc + 1) L (.ref (98 + 1 * j.toNatClampNeg) :: S) Ln I Ret) : ny_g d y pc L (.int j :: .ref 87 :: S) Ln I Ret := ny_aaG (t := 2) rfl (by decide) ny_rr87 (by decide) hy hi h kk
theorem ny_aa81 {j : Int32} (hy : ny_chk own y = true) (hi : y.2.2.2.2.2[i]? = some (pc, 1, .aaload, a, b, v, w)) (h : ny_in j 4 = true) (kk : ny_g d y (pc + 1) L (.ref (82 + 1 * j.toNatClampNeg) :: S) Ln I Ret) : ny_g d y pc L (.int j :: .ref 81 :: S) Ln I Ret := ny_aaG (t := 3) rfl (by decide) ny_rr81 (by decide) hy hi h kk
theorem ny_dv1 (ci : Nat) {o : Nat} (hy : ny_chk own y = true) (hi : y.2.2.2.2.2[i]? = some (pc, 3, .invokevirtual idx, a, b, v, w)) (hz : ny_zv z na = true) (hlk : ny_mem (.methodLink y.1.cls idx z.1) = true)
    (hst : St = av.reverse ++ .ref o :: S) (hkd : ny_kd (ny_KK Ln) o (0, ci) = true) (hci : ci < 11) (hcn : ny_cn.getD ci "" = z.1.cls) (hna : av.length = na) (hS4 : Nat.ble S.length 4 = true) (hcall : ny_C1 d z (.ref o :: av) Ln I Q1) (kk : ∀ r I', Q1 r I' → ny_g (d + 1) y (pc + 3) L (.int r :: S) Ln I' Ret) : ny_g (d + 1) y pc L St Ln I Ret :=
  ny_cv1 o ci hy hi hz hlk hkd hci hcn hst hna (Nat.le_of_ble_eq_true hS4) hcall kk
theorem ny_dv0 (ci : Nat) {o : Nat} (hy : ny_chk own y = true) (hi : y.2.2.2.2.2[i]? = some (pc, 3, .invokevirtual idx, a, b, v, w)) (hz : ny_zv z na = true) (hlk : ny_mem (.methodLink y.1.cls idx z.1) = true)
    (hst : St = av.reverse ++ .ref o :: S) (hkd : ny_kd (ny_KK Ln) o (0, ci) = true) (hci : ci < 11) (hcn : ny_cn.getD ci "" = z.1.cls) (hna : av.length = na) (hS4 : Nat.ble S.length 4 = true) (hcall : ny_C0 d z (.ref o :: av) Ln I Q0) (kk : ∀ I', Q0 I' → ny_g (d + 1) y (pc + 3) L S Ln I' Ret) : ny_g (d + 1) y pc L St Ln I Ret :=
  ny_cv0 o ci hy hi hz hlk hkd hci hcn hst hna (Nat.le_of_ble_eq_true hS4) hcall kk
theorem ny_dvr (ci : Nat) {o : Nat} (hy : ny_chk own y = true) (hi : y.2.2.2.2.2[i]? = some (pc, 3, .invokevirtual idx, a, b, v, w)) (hz : ny_zv z na = true) (hlk : ny_mem (.methodLink y.1.cls idx z.1) = true)
    (hst : St = av.reverse ++ .ref o :: S) (hkd : ny_kd (ny_KK Ln) o (0, ci) = true) (hci : ci < 11) (hcn : ny_cn.getD ci "" = z.1.cls) (hna : av.length = na) (hS4 : Nat.ble S.length 4 = true) (hcall : ny_Cr d z (.ref o :: av) Ln I Qr) (kk : ∀ r I', Qr r I' → ny_g (d + 1) y (pc + 3) L (.ref r :: S) Ln I' Ret) : ny_g (d + 1) y pc L St Ln I Ret :=
  ny_cvr o ci hy hi hz hlk hkd hci hcn hst hna (Nat.le_of_ble_eq_true hS4) hcall kk
theorem ny_ds1 (hy : ny_chk own y = true) (hi : y.2.2.2.2.2[i]? = some (pc, 3, .invokestatic idx, a, b, v, w)) (hz : ny_zs z na = true) (hlk : ny_mem (.methodLink y.1.cls idx z.1) = true)
    (hst : St = av.reverse ++ S) (hna : av.length = na) (hS4 : Nat.ble S.length 4 = true) (hcall : ny_C1 d z av Ln I Q1) (kk : ∀ r I', Q1 r I' → ny_g (d + 1) y (pc + 3) L (.int r :: S) Ln I' Ret) : ny_g (d + 1) y pc L St Ln I Ret :=
  ny_cs1 hy hi hz hlk hst hna (Nat.le_of_ble_eq_true hS4) hcall kk
theorem ny_ds0 (hy : ny_chk own y = true) (hi : y.2.2.2.2.2[i]? = some (pc, 3, .invokestatic idx, a, b, v, w)) (hz : ny_zs z na = true) (hlk : ny_mem (.methodLink y.1.cls idx z.1) = true)
    (hst : St = av.reverse ++ S) (hna : av.length = na) (hS4 : Nat.ble S.length 4 = true) (hcall : ny_C0 d z av Ln I Q0) (kk : ∀ I', Q0 I' → ny_g (d + 1) y (pc + 3) L S Ln I' Ret) : ny_g (d + 1) y pc L St Ln I Ret :=
  ny_cs0 hy hi hz hlk hst hna (Nat.le_of_ble_eq_true hS4) hcall kk
theorem ny_n1' (hz : ny_zb z na = true) (hL : Nat.ble (lg_sl av).length z.2.2.1 = true) (h : ny_g d z 0 (lv_args 0 av) [] Ln I (ny_r1 Ln Q1)) : ny_C1 d z av Ln I Q1 := ny_n1 hz (Nat.le_of_ble_eq_true hL) h
theorem ny_n0' (hz : ny_zb z na = true) (hL : Nat.ble (lg_sl av).length z.2.2.1 = true) (h : ny_g d z 0 (lv_args 0 av) [] Ln I (ny_r0 Ln Q0)) : ny_C0 d z av Ln I Q0 := ny_n0 hz (Nat.le_of_ble_eq_true hL) h
theorem ny_nr' (hz : ny_zb z na = true) (hL : Nat.ble (lg_sl av).length z.2.2.1 = true) (h : ny_g d z 0 (lv_args 0 av) [] Ln I (ny_rr Ln Qr)) : ny_Cr d z av Ln I Qr := ny_nr hz (Nat.le_of_ble_eq_true hL) h
end NYAA
section NYCW
variable {d mc ms own : Nat} {y z : ny_M} {pc i a b idx na mc' ms' : Nat} {v : Int32} {w : Int64} {L : ny_Lc} {S St av : List Value} {K : ny_K} {I : ny_I} {R : ny_R} {k n : Nat} {Ret Ret' : ny_Q}
theorem ny_callW (hy : ny_chk own y = true) (hi : y.2.2.2.2.2[i]? = some (pc, 3, .invokevirtual idx, a, b, v, w)) (hz : ny_zv z na = true) (hlk : ny_mem (.methodLink y.1.cls idx z.1) = true) (hcn : z.1.cls = "java/lang/String")
    (hst : St = av.reverse ++ .ref 2 :: S) (hna : av.length = na) (hbud : k + mc' ≤ mc ∧ n + ms' ≤ ms) (hS4 : S.length ≤ 4) (hcall : ny_Call d mc' ms' z (.ref 2 :: av) K I R Ret')
    (kk : ∀ v K' I' R', Ret' v K' I' R' → ny_G (d + 1) mc ms y (pc + 3) L (v.toList ++ S) K' I' R' (k + mc') (n + ms') Ret) : ny_G (d + 1) mc ms y pc L St K I R k n Ret := by
  intro p l e Rm s m args below meth c H locs ls Q E C hk hn hR hl hq
  have hd := ny_dec hy hi
  simp only [ny_zv, ny_zb, Bool.and_eq_true, decide_eq_true_eq] at hz
  obtain ⟨⟨⟨⟨⟨⟨⟨hz1, hz2⟩, hz3⟩, hz4⟩, hz5⟩, -⟩, hz6⟩, hz7⟩ := hz
  obtain ⟨hx, hb, hr, hml, hown, hts, hlo, hin, hf1, hf2, hc, hs, hSS, hX, hsz⟩ := id C
  refine ny_szW hsz hR fun hsz2 => ?_
  have hcs := ny_catsum E S
  have cw : CallW Rm s args y.1.cls z.1.cls idx z.1 z.2.1 z.2.2.1 z.2.2.2.1 (ny_W z) (ny_rm d mc' ms') mc' ms' na := by
    refine cwV na hts (ny_good ?_) rfl rfl rfl ⟨rfl, hz4⟩ ⟨hf1, ?_⟩
    · intro w hw
      unfold wsV ny_W at hw
      simp only [List.cons_append, List.nil_append, List.mem_cons] at hw
      rcases hw with rfl | rfl | rfl | rfl | rfl | hw
      · exact ny_mem_tb hlk
      · exact ny_mem_tb hz6
      · exact ny_mem_tb hz7
      · exact ny_mem_tb hz1
      · exact ny_mem_tb hz2
      · exact hw
    · show 8 + (z.2.2.1 + 11) + 64 * (d + 1) ≤ Rm.locals
      omega
  have hrecv := vk_recv (hX.2.2.2.2.2.2.2) (by decide : 0 < 1) hR.2.1
  have hrecv : ∃ cell : Cell, H[ny_ph E 2]? = some cell ∧ cell.vm.isStatics = false ∧ s.vm.findClass z.1.cls = some cell.cls := by rw [hcn]; exact hrecv
  have hpre := ny_pre_at (av := .ref 2 :: av) C hR hsz2
  rw [List.map_cons, ny_refs (show (2 : Nat) ≠ 4 by decide)] at hpre
  subst hst
  rw [List.map_append, List.map_cons, List.map_reverse, ny_refs (show (2 : Nat) ≠ 4 by decide)]
  refine ny_cont (va_runV (rest := S.map (ny_v E)) ⟨hx, hb, hml, hown, hts⟩ (hcall l E) cw ⟨ny_blind E _ K I R, hrecv, hpre⟩ rfl (by rw [List.length_map]; exact hna) hl.1 rfl (lv_room (by omega)) hd ⟨by omega, by omega⟩) hR.2.1 fun v K' I' R' H1 locs1 h1 h2 h3 h4 => ?_
  have eqv : (v.map (ny_v E)).toList ++ S.map (ny_v E) = (v.toList ++ S).map (ny_v E) := by cases v <;> simp
  rw [eqv]
  have hz := hR.2.2
  exact kk v K' I' R' h1 p l e Rm s m args below meth c H1 locs1 ls Q E C hbud.1 hbud.2 ⟨h2, h4, by omega⟩ hl hq
theorem ny_cw1 {Ln : Nat} {Q1 : Int32 → ny_I → Prop} (hy : ny_chk own y = true) (hi : y.2.2.2.2.2[i]? = some (pc, 3, .invokevirtual idx, a, b, v, w)) (hz : ny_zv z na = true) (hlk : ny_mem (.methodLink y.1.cls idx z.1) = true)
    (hst : St = av.reverse ++ .ref 2 :: S) (hcn : z.1.cls = "java/lang/String") (hna : av.length = na) (hS4 : Nat.ble S.length 4 = true) (hcall : ny_C1 d z (.ref 2 :: av) Ln I Q1) (kk : ∀ r I', Q1 r I' → ny_g (d + 1) y (pc + 3) L (.int r :: S) Ln I' Ret) : ny_g (d + 1) y pc L St Ln I Ret :=
  ny_callW (mc' := 0) (ms' := 0) hy hi hz hlk hcn hst hna ⟨Nat.le_refl _, Nat.le_refl _⟩ (Nat.le_of_ble_eq_true hS4) hcall (fun v K' I' R' ⟨h1, h2, x, h3, h4⟩ => by subst h1; subst h2; subst h3; exact kk x I' h4)
end NYCW
