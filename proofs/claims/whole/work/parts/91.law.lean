/-! the law's own walk: its room is wider than what it uses -/
def ny_H (d mc ms : Nat) (y : ny_M) (pc : Nat) (L : ny_Lc) (S : List Value) (K : ny_K) (I : ny_I) (R : ny_R) (k n : Nat) : Prop :=
  ∀ (p : Program) (l : Launch) (e : Env) (Rm : Room) (s : State) (m : MethodId) (args : Array Value) (below : List Frame) (meth : Method) (c : Code) (H : Heap) (locs : List Loc) (ls : Array Slot) (Q : State → Prop) (E : ny_E),
    ny_C E p s m args meth c y Rm d mc ms → k ≤ mc → n ≤ ms → ny_Rl E K I R s H locs k → lv_has ls y.2.2.1 (L.map (ny_lv E)) →
    (∀ (H' : Heap) (locs' : List Loc) (pc' : Nat) (ls' : Array Slot), va_S (ny_A E) s.heap H' locs' → decode y.2.1 pc' = .ok (.ireturn, 1) → W p l e Rm s m args below meth c H' locs' mc ms Q (F0 m pc' ls' [.int 1])) →
    W p l e Rm s m args below meth c H locs k n Q (F0 m pc ls (S.map (ny_v E)))
section NYH
variable {d mc ms : Nat} {y : ny_M} {pc : Nat} {L : ny_Lc} {S : List Value} {K : ny_K} {I : ny_I} {R : ny_R} {k n : Nat}
theorem ny_H_sub {L2 : ny_Lc} (h : ny_H d mc ms y pc L2 S K I R k n) (hs : ∀ q ∈ L2, q ∈ L) : ny_H d mc ms y pc L S K I R k n := by
  intro p l e Rm s m args below meth c H locs ls Q E C hk hn hR hl hq
  refine h p l e Rm s m args below meth c H locs ls Q E C hk hn hR ⟨hl.1, hl.2.1, fun q hm => ?_⟩ hq
  obtain ⟨q0, h0, rfl⟩ := List.mem_map.mp hm
  exact hl.2.2 _ (List.mem_map.mpr ⟨q0, hs q0 h0, rfl⟩)
theorem ny_H_run {own : Nat} (hy : ny_chk own y = true) : ∀ (qs : List ny_Op) (pc : Nat) (L : ny_Lc) (S : List Value) (I : ny_I), (∀ q ∈ qs, q ∈ y.2.2.2.2.2) →
    ny_run K R qs pc L S I (fun pc' L' S' I' => ny_H d mc ms y pc' L' S' K I' R k n) → ny_H d mc ms y pc L S K I R k n := by
  intro qs
  induction qs with
  | nil => intro pc L S I _ h; exact h
  | cons q qs ih =>
    intro pc L S I hin h
    rw [ny_run] at h
    split at h
    next => exact h.elim
    next hb =>
      have hpc : q.1 = pc := Nat.eq_of_beq_eq_true hb
      split at h
      next => exact h.elim
      next L' S' I' hst =>
        have hG := ih _ _ _ _ (fun q' hq' => hin q' (List.mem_cons_of_mem _ hq')) h
        intro p l e Rm s m args below meth c H locs ls Q E C hk hn hR hl hq
        rw [← hpc] at hG ⊢
        exact ny_stp_ok hy C (hin q List.mem_cons_self) hst (fun b hb => by cases hb) hk hn hR hl (fun H' locs' ls' hR' hl' => hG p l e Rm s m args below meth c H' locs' ls' Q E C hk hn hR' hl' hq)
      next g L' S' I' hst =>
        have hG := ih _ _ _ _ (fun q' hq' => hin q' (List.mem_cons_of_mem _ hq')) h.2
        intro p l e Rm s m args below meth c H locs ls Q E C hk hn hR hl hq
        rw [← hpc] at hG ⊢
        exact ny_stp_ok hy C (hin q List.mem_cons_self) hst (fun b hb => by cases hb; exact h.1) hk hn hR hl (fun H' locs' ls' hR' hl' => hG p l e Rm s m args below meth c H' locs' ls' Q E C hk hn hR' hl' hq)
theorem ny_Hblk {own : Nat} (hy : ny_chk own y = true) (i j : Nat) (h : ny_run K R ((y.2.2.2.2.2.drop i).take j) pc L S I (fun pc' L' S' I' => ny_H d mc ms y pc' L' S' K I' R k n)) : ny_H d mc ms y pc L S K I R k n :=
  ny_H_run hy _ pc L S I (fun _ hq => List.mem_of_mem_drop (List.mem_of_mem_take hq)) h
end NYH
section NYHC
variable {d mc ms own : Nat} {y : ny_M} {pc tgt i a b : Nat} {off : Int} {v : Int32} {w : Int64} {L : ny_Lc} {S : List Value} {K : ny_K} {I : ny_I} {R : ny_R} {k n : Nat} {x z : Int32}
theorem ny_Hicmp_eq (hy : ny_chk own y = true) (hi : y.2.2.2.2.2[i]? = some (pc, 3, .if_icmp .eq off, a, b, v, w)) (ht : (pc : Int) + off = (tgt : Int)) (kt : x = z → ny_H d mc ms y tgt L S K I R k n) (kf : ¬ x = z → ny_H d mc ms y (pc + 3) L S K I R k n) : ny_H d mc ms y pc L (.int z :: .int x :: S) K I R k n := by
  intro p l e Rm s m args below meth c H locs ls Q E C hk hn hR hl hq
  have hd := ny_dec hy hi
  obtain ⟨hx, hb, -⟩ := id C
  exact lv_icmp_eq hx hb hd ht (fun h => kt h p l e Rm s m args below meth c H locs ls Q E C hk hn hR hl hq) (fun h => kf h p l e Rm s m args below meth c H locs ls Q E C hk hn hR hl hq)
theorem ny_Hicmp_gt (hy : ny_chk own y = true) (hi : y.2.2.2.2.2[i]? = some (pc, 3, .if_icmp .gt off, a, b, v, w)) (ht : (pc : Int) + off = (tgt : Int)) (kt : z < x → ny_H d mc ms y tgt L S K I R k n) (kf : ¬ z < x → ny_H d mc ms y (pc + 3) L S K I R k n) : ny_H d mc ms y pc L (.int z :: .int x :: S) K I R k n := by
  intro p l e Rm s m args below meth c H locs ls Q E C hk hn hR hl hq
  have hd := ny_dec hy hi
  obtain ⟨hx, hb, -⟩ := id C
  exact lv_icmp_gt hx hb hd ht (fun h => kt h p l e Rm s m args below meth c H locs ls Q E C hk hn hR hl hq) (fun h => kf h p l e Rm s m args below meth c H locs ls Q E C hk hn hR hl hq)
theorem ny_Hgoto (hy : ny_chk own y = true) (hi : y.2.2.2.2.2[i]? = some (pc, 3, .goto off, a, b, v, w)) (ht : (pc : Int) + off = (tgt : Int)) (h : ny_H d mc ms y tgt L S K I R k n) : ny_H d mc ms y pc L S K I R k n := by
  intro p l e Rm s m args below meth c H locs ls Q E C hk hn hR hl hq
  have hd := ny_dec hy hi
  obtain ⟨hx, hb, -⟩ := id C
  exact lv_goto hx hb hd ht (h p l e Rm s m args below meth c H locs ls Q E C hk hn hR hl hq)
theorem ny_Htabin {dflt lo hi : Int} {offs : Array Int} {len : Nat} (hy : ny_chk own y = true) (hi2 : y.2.2.2.2.2[i]? = some (pc, len, .tableswitch dflt lo hi offs, a, b, v, w)) (h1 : ¬ x.toInt < lo) (h2 : ¬ hi < x.toInt) (ho : offs[(x.toInt - lo).toNat]? = some off) (ht : (pc : Int) + off = (tgt : Int)) (h : ny_H d mc ms y tgt L S K I R k n) : ny_H d mc ms y pc L (.int x :: S) K I R k n := by
  intro p l e Rm s m args below meth c H locs ls Q E C hk hn hR hl hq
  have hd := ny_dec hy hi2
  obtain ⟨hx, hb, -⟩ := id C
  exact lv_tableIn hx hb hd h1 h2 ho ht (h p l e Rm s m args below meth c H locs ls Q E C hk hn hR hl hq)
theorem ny_Htabout {dflt lo hi : Int} {offs : Array Int} {len : Nat} (hy : ny_chk own y = true) (hi2 : y.2.2.2.2.2[i]? = some (pc, len, .tableswitch dflt lo hi offs, a, b, v, w)) (h1 : x.toInt < lo ∨ hi < x.toInt) (ht : (pc : Int) + dflt = (tgt : Int)) (h : ny_H d mc ms y tgt L S K I R k n) : ny_H d mc ms y pc L (.int x :: S) K I R k n := by
  intro p l e Rm s m args below meth c H locs ls Q E C hk hn hR hl hq
  have hd := ny_dec hy hi2
  obtain ⟨hx, hb, -⟩ := id C
  exact lv_tableOut hx hb hd h1 ht (h p l e Rm s m args below meth c H locs ls Q E C hk hn hR hl hq)
theorem ny_Hret (hy : ny_chk own y = true) (hi : y.2.2.2.2.2[i]? = some (pc, 1, .ireturn, a, b, v, w)) : ny_H d mc ms y pc L [.int 1] K I R k n := by
  intro p l e Rm s m args below meth c H locs ls Q E C hk hn hR hl hq
  have hd := ny_dec hy hi
  exact W.widen hk hn (hq H locs pc ls hR.2.1 hd)
end NYHC
section NYHD
variable {d mc ms own : Nat} {y z : ny_M} {pc i a b idx na mc' ms' : Nat} {v : Int32} {w : Int64} {L : ny_Lc} {S St av : List Value} {K : ny_K} {I : ny_I} {R : ny_R} {k n : Nat} {Ret' : ny_Q}
theorem ny_HcallV {o ci : Nat} (hy : ny_chk own y = true) (hi : y.2.2.2.2.2[i]? = some (pc, 3, .invokevirtual idx, a, b, v, w)) (hz : ny_zv z na = true) (hlk : ny_mem (.methodLink y.1.cls idx z.1) = true) (hkd : ny_kd K o (0, ci) = true) (hci : ci < 11) (hcn : ny_cn.getD ci "" = z.1.cls)
    (hst : St = av.reverse ++ .ref o :: S) (hna : av.length = na) (hbud : k + mc' ≤ mc ∧ n + ms' ≤ ms) (hS4 : S.length ≤ 4) (hcall : ny_Call d mc' ms' z (.ref o :: av) K I R Ret')
    (kk : ∀ v K' I' R', Ret' v K' I' R' → ny_H (d + 1) mc ms y (pc + 3) L (v.toList ++ S) K' I' R' (k + mc') (n + ms')) : ny_H (d + 1) mc ms y pc L St K I R k n := by
  intro p l e Rm s m args below meth c H locs ls Q E C hk hn hR hl hq
  have hd := ny_dec hy hi
  simp only [ny_zv, ny_zb, Bool.and_eq_true, decide_eq_true_eq] at hz
  obtain ⟨⟨⟨⟨⟨⟨⟨hz1, hz2⟩, hz3⟩, hz4⟩, hz5⟩, -⟩, hz6⟩, hz7⟩ := hz
  obtain ⟨hx, hb, hr, hml, hown, hts, hlo, hin, hf1, hf2, hc, hs, hSS, hX, hsz⟩ := id C
  refine ny_szW hsz hR fun hsz2 => ?_
  obtain ⟨h5, hws⟩ := ny_obj hR.1 hci hkd
  have hcs := ny_catsum E S
  have cw : CallW Rm s args y.1.cls z.1.cls idx z.1 z.2.1 z.2.2.1 z.2.2.2.1 (ny_W z) (ny_rm d mc' ms') mc' ms' na := by
    refine cwV na hts (ny_good ?_) rfl rfl rfl ⟨rfl, hz4⟩ ⟨hf1, ?_⟩
    · intro w hw
      unfold wsV ny_W at hw
      simp only [List.cons_append, List.nil_append, List.mem_cons] at hw
      rcases hw with rfl | rfl | rfl | rfl | rfl | hw
      · exact ny_mem_tb hlk
      · exact ny_mem_tb hz6
      · exact ny_mem_tb hz7
      · exact ny_mem_tb hz1
      · exact ny_mem_tb hz2
      · exact hw
    · show 8 + (z.2.2.1 + 11) + 64 * (d + 1) ≤ Rm.locals
      omega
  have hrecv := va_recv hSS.1 hR.1.2.2.2.2 (ny_cls_at ci hci) hws
  rw [hcn] at hrecv
  have hpre := ny_pre_at (av := .ref o :: av) C hR hsz2
  rw [List.map_cons, ny_ref h5] at hpre
  subst hst
  rw [List.map_append, List.map_cons, List.map_reverse, ny_ref h5]
  refine ny_cont (va_runV (rest := S.map (ny_v E)) ⟨hx, hb, hml, hown, hts⟩ (hcall l E) cw ⟨ny_blind E _ K I R, hrecv, hpre⟩ rfl (by rw [List.length_map]; exact hna) hl.1 rfl (lv_room (by omega)) hd ⟨by omega, by omega⟩) hR.2.1 fun v K' I' R' H1 locs1 h1 h2 h3 h4 => ?_
  have eqv : (v.map (ny_v E)).toList ++ S.map (ny_v E) = (v.toList ++ S).map (ny_v E) := by cases v <;> simp
  rw [eqv]
  have hz := hR.2.2
  exact kk v K' I' R' h1 p l e Rm s m args below meth c H1 locs1 ls Q E C hbud.1 hbud.2 ⟨h2, h4, by omega⟩ hl hq
end NYHD
def ny_ck1 (q : ny_Op) : Bool := decide (decode code q.1 = .ok (q.2.2.1, q.2.1)) && ny_okp 13 "NymphRotaLaw" 4 q
theorem k_Lw_0 : pg_Lw_law_0.all ny_ck1 = true := by decide +kernel
theorem k_Lw_1 : pg_Lw_law_1.all ny_ck1 = true := by decide +kernel
theorem k_Lw_2 : pg_Lw_law_2.all ny_ck1 = true := by decide +kernel
theorem k_Lw_3 : pg_Lw_law_3.all ny_ck1 = true := by decide +kernel
theorem k_Lw_4 : pg_Lw_law_4.all ny_ck1 = true := by decide +kernel
theorem k_Lw_5 : pg_Lw_law_5.all ny_ck1 = true := by decide +kernel
theorem k_Lw_6 : pg_Lw_law_6.all ny_ck1 = true := by decide +kernel
theorem k_Lw_7 : pg_Lw_law_7.all ny_ck1 = true := by decide +kernel
theorem k_Lw_8 : pg_Lw_law_8.all ny_ck1 = true := by decide +kernel
theorem k_Lw_9 : pg_Lw_law_9.all ny_ck1 = true := by decide +kernel
theorem k_Lw_10 : pg_Lw_law_10.all ny_ck1 = true := by decide +kernel
theorem k_Lw_11 : pg_Lw_law_11.all ny_ck1 = true := by decide +kernel
theorem k_Lw_12 : pg_Lw_law_12.all ny_ck1 = true := by decide +kernel
theorem k_Lw_all : pg_Lw_law.all ny_ck1 = true := by
  unfold pg_Lw_law
  simp only [List.all_append, k_Lw_0, k_Lw_1, k_Lw_2, k_Lw_3, k_Lw_4, k_Lw_5, k_Lw_6, k_Lw_7, k_Lw_8, k_Lw_9, k_Lw_10, k_Lw_11, k_Lw_12, Bool.and_self]
theorem k_Lw_law : ny_chk 13 m_Lw_law = true := by
  unfold ny_chk
  rw [show (m_Lw_law.2.2.2.2.2.all fun q => decide (decode m_Lw_law.2.1 q.1 = .ok (q.2.2.1, q.2.1)) && ny_okp 13 m_Lw_law.1.cls m_Lw_law.2.2.1 q) = true from k_Lw_all, Bool.and_true]
  decide +kernel
