section NYCT
variable {d mc ms own : Nat} {y : ny_M} {pc tgt i a b : Nat} {off : Int} {v : Int32} {w : Int64} {L : ny_Lc} {S : List Value} {K : ny_K} {I : ny_I} {R : ny_R} {k n : Nat} {Ret : ny_Q} {x z : Int32}
theorem ny_if_eq (hy : ny_chk own y = true) (hi : y.2.2.2.2.2[i]? = some (pc, 3, .ifCond .eq off, a, b, v, w)) (ht : (pc : Int) + off = (tgt : Int)) (kt : x = 0 → ny_G d mc ms y tgt L S K I R k n Ret) (kf : ¬ x = 0 → ny_G d mc ms y (pc + 3) L S K I R k n Ret) : ny_G d mc ms y pc L (.int x :: S) K I R k n Ret := by
  intro p l e Rm s m args below meth c H locs ls Q E C hk hn hR hl hq
  have hd := ny_dec hy hi
  obtain ⟨hx, hb, -⟩ := id C
  exact lv_if_eq hx hb hd ht (fun h => kt h p l e Rm s m args below meth c H locs ls Q E C hk hn hR hl hq) (fun h => kf h p l e Rm s m args below meth c H locs ls Q E C hk hn hR hl hq)
theorem ny_icmp_eq (hy : ny_chk own y = true) (hi : y.2.2.2.2.2[i]? = some (pc, 3, .if_icmp .eq off, a, b, v, w)) (ht : (pc : Int) + off = (tgt : Int)) (kt : x = z → ny_G d mc ms y tgt L S K I R k n Ret) (kf : ¬ x = z → ny_G d mc ms y (pc + 3) L S K I R k n Ret) : ny_G d mc ms y pc L (.int z :: .int x :: S) K I R k n Ret := by
  intro p l e Rm s m args below meth c H locs ls Q E C hk hn hR hl hq
  have hd := ny_dec hy hi
  obtain ⟨hx, hb, -⟩ := id C
  exact lv_icmp_eq hx hb hd ht (fun h => kt h p l e Rm s m args below meth c H locs ls Q E C hk hn hR hl hq) (fun h => kf h p l e Rm s m args below meth c H locs ls Q E C hk hn hR hl hq)
theorem ny_if_ne (hy : ny_chk own y = true) (hi : y.2.2.2.2.2[i]? = some (pc, 3, .ifCond .ne off, a, b, v, w)) (ht : (pc : Int) + off = (tgt : Int)) (kt : ¬ x = 0 → ny_G d mc ms y tgt L S K I R k n Ret) (kf : x = 0 → ny_G d mc ms y (pc + 3) L S K I R k n Ret) : ny_G d mc ms y pc L (.int x :: S) K I R k n Ret := by
  intro p l e Rm s m args below meth c H locs ls Q E C hk hn hR hl hq
  have hd := ny_dec hy hi
  obtain ⟨hx, hb, -⟩ := id C
  exact lv_if_ne hx hb hd ht (fun h => kt h p l e Rm s m args below meth c H locs ls Q E C hk hn hR hl hq) (fun h => kf h p l e Rm s m args below meth c H locs ls Q E C hk hn hR hl hq)
theorem ny_icmp_ne (hy : ny_chk own y = true) (hi : y.2.2.2.2.2[i]? = some (pc, 3, .if_icmp .ne off, a, b, v, w)) (ht : (pc : Int) + off = (tgt : Int)) (kt : ¬ x = z → ny_G d mc ms y tgt L S K I R k n Ret) (kf : x = z → ny_G d mc ms y (pc + 3) L S K I R k n Ret) : ny_G d mc ms y pc L (.int z :: .int x :: S) K I R k n Ret := by
  intro p l e Rm s m args below meth c H locs ls Q E C hk hn hR hl hq
  have hd := ny_dec hy hi
  obtain ⟨hx, hb, -⟩ := id C
  exact lv_icmp_ne hx hb hd ht (fun h => kt h p l e Rm s m args below meth c H locs ls Q E C hk hn hR hl hq) (fun h => kf h p l e Rm s m args below meth c H locs ls Q E C hk hn hR hl hq)
theorem ny_if_lt (hy : ny_chk own y = true) (hi : y.2.2.2.2.2[i]? = some (pc, 3, .ifCond .lt off, a, b, v, w)) (ht : (pc : Int) + off = (tgt : Int)) (kt : x < 0 → ny_G d mc ms y tgt L S K I R k n Ret) (kf : ¬ x < 0 → ny_G d mc ms y (pc + 3) L S K I R k n Ret) : ny_G d mc ms y pc L (.int x :: S) K I R k n Ret := by
  intro p l e Rm s m args below meth c H locs ls Q E C hk hn hR hl hq
  have hd := ny_dec hy hi
  obtain ⟨hx, hb, -⟩ := id C
  exact lv_if_lt hx hb hd ht (fun h => kt h p l e Rm s m args below meth c H locs ls Q E C hk hn hR hl hq) (fun h => kf h p l e Rm s m args below meth c H locs ls Q E C hk hn hR hl hq)
theorem ny_icmp_lt (hy : ny_chk own y = true) (hi : y.2.2.2.2.2[i]? = some (pc, 3, .if_icmp .lt off, a, b, v, w)) (ht : (pc : Int) + off = (tgt : Int)) (kt : x < z → ny_G d mc ms y tgt L S K I R k n Ret) (kf : ¬ x < z → ny_G d mc ms y (pc + 3) L S K I R k n Ret) : ny_G d mc ms y pc L (.int z :: .int x :: S) K I R k n Ret := by
  intro p l e Rm s m args below meth c H locs ls Q E C hk hn hR hl hq
  have hd := ny_dec hy hi
  obtain ⟨hx, hb, -⟩ := id C
  exact lv_icmp_lt hx hb hd ht (fun h => kt h p l e Rm s m args below meth c H locs ls Q E C hk hn hR hl hq) (fun h => kf h p l e Rm s m args below meth c H locs ls Q E C hk hn hR hl hq)
theorem ny_if_ge (hy : ny_chk own y = true) (hi : y.2.2.2.2.2[i]? = some (pc, 3, .ifCond .ge off, a, b, v, w)) (ht : (pc : Int) + off = (tgt : Int)) (kt : 0 ≤ x → ny_G d mc ms y tgt L S K I R k n Ret) (kf : ¬ 0 ≤ x → ny_G d mc ms y (pc + 3) L S K I R k n Ret) : ny_G d mc ms y pc L (.int x :: S) K I R k n Ret := by
  intro p l e Rm s m args below meth c H locs ls Q E C hk hn hR hl hq
  have hd := ny_dec hy hi
  obtain ⟨hx, hb, -⟩ := id C
  exact lv_if_ge hx hb hd ht (fun h => kt h p l e Rm s m args below meth c H locs ls Q E C hk hn hR hl hq) (fun h => kf h p l e Rm s m args below meth c H locs ls Q E C hk hn hR hl hq)
theorem ny_icmp_ge (hy : ny_chk own y = true) (hi : y.2.2.2.2.2[i]? = some (pc, 3, .if_icmp .ge off, a, b, v, w)) (ht : (pc : Int) + off = (tgt : Int)) (kt : z ≤ x → ny_G d mc ms y tgt L S K I R k n Ret) (kf : ¬ z ≤ x → ny_G d mc ms y (pc + 3) L S K I R k n Ret) : ny_G d mc ms y pc L (.int z :: .int x :: S) K I R k n Ret := by
  intro p l e Rm s m args below meth c H locs ls Q E C hk hn hR hl hq
  have hd := ny_dec hy hi
  obtain ⟨hx, hb, -⟩ := id C
  exact lv_icmp_ge hx hb hd ht (fun h => kt h p l e Rm s m args below meth c H locs ls Q E C hk hn hR hl hq) (fun h => kf h p l e Rm s m args below meth c H locs ls Q E C hk hn hR hl hq)
theorem ny_if_gt (hy : ny_chk own y = true) (hi : y.2.2.2.2.2[i]? = some (pc, 3, .ifCond .gt off, a, b, v, w)) (ht : (pc : Int) + off = (tgt : Int)) (kt : 0 < x → ny_G d mc ms y tgt L S K I R k n Ret) (kf : ¬ 0 < x → ny_G d mc ms y (pc + 3) L S K I R k n Ret) : ny_G d mc ms y pc L (.int x :: S) K I R k n Ret := by
  intro p l e Rm s m args below meth c H locs ls Q E C hk hn hR hl hq
  have hd := ny_dec hy hi
  obtain ⟨hx, hb, -⟩ := id C
  exact lv_if_gt hx hb hd ht (fun h => kt h p l e Rm s m args below meth c H locs ls Q E C hk hn hR hl hq) (fun h => kf h p l e Rm s m args below meth c H locs ls Q E C hk hn hR hl hq)
theorem ny_icmp_gt (hy : ny_chk own y = true) (hi : y.2.2.2.2.2[i]? = some (pc, 3, .if_icmp .gt off, a, b, v, w)) (ht : (pc : Int) + off = (tgt : Int)) (kt : z < x → ny_G d mc ms y tgt L S K I R k n Ret) (kf : ¬ z < x → ny_G d mc ms y (pc + 3) L S K I R k n Ret) : ny_G d mc ms y pc L (.int z :: .int x :: S) K I R k n Ret := by
  intro p l e Rm s m args below meth c H locs ls Q E C hk hn hR hl hq
  have hd := ny_dec hy hi
  obtain ⟨hx, hb, -⟩ := id C
  exact lv_icmp_gt hx hb hd ht (fun h => kt h p l e Rm s m args below meth c H locs ls Q E C hk hn hR hl hq) (fun h => kf h p l e Rm s m args below meth c H locs ls Q E C hk hn hR hl hq)
theorem ny_if_le (hy : ny_chk own y = true) (hi : y.2.2.2.2.2[i]? = some (pc, 3, .ifCond .le off, a, b, v, w)) (ht : (pc : Int) + off = (tgt : Int)) (kt : x ≤ 0 → ny_G d mc ms y tgt L S K I R k n Ret) (kf : ¬ x ≤ 0 → ny_G d mc ms y (pc + 3) L S K I R k n Ret) : ny_G d mc ms y pc L (.int x :: S) K I R k n Ret := by
  intro p l e Rm s m args below meth c H locs ls Q E C hk hn hR hl hq
  have hd := ny_dec hy hi
  obtain ⟨hx, hb, -⟩ := id C
  exact lv_if_le hx hb hd ht (fun h => kt h p l e Rm s m args below meth c H locs ls Q E C hk hn hR hl hq) (fun h => kf h p l e Rm s m args below meth c H locs ls Q E C hk hn hR hl hq)
theorem ny_icmp_le (hy : ny_chk own y = true) (hi : y.2.2.2.2.2[i]? = some (pc, 3, .if_icmp .le off, a, b, v, w)) (ht : (pc : Int) + off = (tgt : Int)) (kt : x ≤ z → ny_G d mc ms y tgt L S K I R k n Ret) (kf : ¬ x ≤ z → ny_G d mc ms y (pc + 3) L S K I R k n Ret) : ny_G d mc ms y pc L (.int z :: .int x :: S) K I R k n Ret := by
  intro p l e Rm s m args below meth c H locs ls Q E C hk hn hR hl hq
  have hd := ny_dec hy hi
  obtain ⟨hx, hb, -⟩ := id C
  exact lv_icmp_le hx hb hd ht (fun h => kt h p l e Rm s m args below meth c H locs ls Q E C hk hn hR hl hq) (fun h => kf h p l e Rm s m args below meth c H locs ls Q E C hk hn hR hl hq)
theorem ny_goto (hy : ny_chk own y = true) (hi : y.2.2.2.2.2[i]? = some (pc, 3, .goto off, a, b, v, w)) (ht : (pc : Int) + off = (tgt : Int)) (h : ny_G d mc ms y tgt L S K I R k n Ret) : ny_G d mc ms y pc L S K I R k n Ret := by
  intro p l e Rm s m args below meth c H locs ls Q E C hk hn hR hl hq
  have hd := ny_dec hy hi
  obtain ⟨hx, hb, -⟩ := id C
  exact lv_goto hx hb hd ht (h p l e Rm s m args below meth c H locs ls Q E C hk hn hR hl hq)
theorem ny_tabin {dflt lo hi : Int} {offs : Array Int} {len : Nat} (hy : ny_chk own y = true) (hi2 : y.2.2.2.2.2[i]? = some (pc, len, .tableswitch dflt lo hi offs, a, b, v, w)) (h1 : ¬ x.toInt < lo) (h2 : ¬ hi < x.toInt) (ho : offs[(x.toInt - lo).toNat]? = some off) (ht : (pc : Int) + off = (tgt : Int)) (h : ny_G d mc ms y tgt L S K I R k n Ret) : ny_G d mc ms y pc L (.int x :: S) K I R k n Ret := by
  intro p l e Rm s m args below meth c H locs ls Q E C hk hn hR hl hq
  have hd := ny_dec hy hi2
  obtain ⟨hx, hb, -⟩ := id C
  exact lv_tableIn hx hb hd h1 h2 ho ht (h p l e Rm s m args below meth c H locs ls Q E C hk hn hR hl hq)
theorem ny_tabout {dflt lo hi : Int} {offs : Array Int} {len : Nat} (hy : ny_chk own y = true) (hi2 : y.2.2.2.2.2[i]? = some (pc, len, .tableswitch dflt lo hi offs, a, b, v, w)) (h1 : x.toInt < lo ∨ hi < x.toInt) (ht : (pc : Int) + dflt = (tgt : Int)) (h : ny_G d mc ms y tgt L S K I R k n Ret) : ny_G d mc ms y pc L (.int x :: S) K I R k n Ret := by
  intro p l e Rm s m args below meth c H locs ls Q E C hk hn hR hl hq
  have hd := ny_dec hy hi2
  obtain ⟨hx, hb, -⟩ := id C
  exact lv_tableOut hx hb hd h1 ht (h p l e Rm s m args below meth c H locs ls Q E C hk hn hR hl hq)
theorem ny_look {dflt : Int} {ps : Array (Int × Int)} {len : Nat} (hy : ny_chk own y = true) (hi2 : y.2.2.2.2.2[i]? = some (pc, len, .lookupswitch dflt ps, a, b, v, w)) (hp : (ps.toList.zip (ps.toList.drop 1)).all (fun (a, next) => a.1 < next.1) = true) (ho : Op.lookupswitch.offset ps.toList dflt x.toInt = off) (ht : (pc : Int) + off = (tgt : Int)) (h : ny_G d mc ms y tgt L S K I R k n Ret) : ny_G d mc ms y pc L (.int x :: S) K I R k n Ret := by
  intro p l e Rm s m args below meth c H locs ls Q E C hk hn hR hl hq
  have hd := ny_dec hy hi2
  obtain ⟨hx, hb, -⟩ := id C
  exact lv_lookup hx hb hd hp ho ht (h p l e Rm s m args below meth c H locs ls Q E C hk hn hR hl hq)
theorem ny_iret {ty : FieldType} (hy : ny_chk own y = true) (hi : y.2.2.2.2.2[i]? = some (pc, 1, .ireturn, a, b, v, w)) (ht : y.2.2.2.1 = some ty) (hn2 : narrow ty (.int x) = .int x) (hm : k = mc) (h : Ret (some (.int x)) K I R) : ny_G d mc ms y pc L [.int x] K I R k n Ret := by
  intro p l e Rm s m args below meth c H locs ls Q E C hk hn hR hl hq
  subst hm
  have hd := ny_dec hy hi
  have hrt : ny_rt y pc (some (.int x)) := ⟨hd, ty, ht, hn2⟩
  have kk := hq (some (.int x)) K I R H locs pc ls h hR hrt
  exact W.widen (Nat.le_refl _) hn kk
theorem ny_vret (hy : ny_chk own y = true) (hi : y.2.2.2.2.2[i]? = some (pc, 1, .return_, a, b, v, w)) (ht : y.2.2.2.1 = none) (hm : k = mc) (h : Ret none K I R) : ny_G d mc ms y pc L [] K I R k n Ret := by
  intro p l e Rm s m args below meth c H locs ls Q E C hk hn hR hl hq
  subst hm
  have hd := ny_dec hy hi
  have hrt : ny_rt y pc none := ⟨hd, ht⟩
  have kk := hq none K I R H locs pc ls h hR hrt
  exact W.widen (Nat.le_refl _) hn kk
theorem ny_aret {o : Nat} {nm : String} (hy : ny_chk own y = true) (hi : y.2.2.2.2.2[i]? = some (pc, 1, .areturn, a, b, v, w)) (ht : y.2.2.2.1 = some (.object nm)) (ho : o ≠ 4) (hm : k = mc) (h : Ret (some (.ref o)) K I R) : ny_G d mc ms y pc L [.ref o] K I R k n Ret := by
  intro p l e Rm s m args below meth c H locs ls Q E C hk hn hR hl hq
  subst hm
  have hd := ny_dec hy hi
  have hrt : ny_rt y pc (some (.ref o)) := ⟨hd, ho, nm, ht⟩
  have kk := hq (some (.ref o)) K I R H locs pc ls h hR hrt
  exact W.widen (Nat.le_refl _) hn kk
end NYCT
