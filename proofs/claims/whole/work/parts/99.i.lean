/-! the constructors: a new cell -/
theorem ny_ws_app (E : ny_E) {K : ny_K} (I : ny_I) (R : ny_R) (kd : Nat × Nat) (h5 : 5 ≤ K.length) : ny_ws E (K ++ [kd]) I R = ny_ws E K I R ++ [(ny_sz E + (K.length - 5), ny_cell E kd (I K.length) (R K.length))] := by
  unfold ny_ws
  rw [List.length_append, show K.length + [kd].length - 5 = (K.length - 5) + 1 by show K.length + 1 - 5 = _; omega, List.range_succ, List.map_append]
  congr 1
  · refine List.map_congr_left fun j hj => ?_
    have hj := List.mem_range.mp hj
    rw [List.getD_eq_getElem?_getD, List.getD_eq_getElem?_getD, List.getElem?_append_left (by omega)]
  · show [(ny_sz E + (K.length - 5), ny_cell E ((K ++ [kd]).getD (K.length - 5 + 5) (0, 0)) (I (K.length - 5 + 5)) (R (K.length - 5 + 5)))] = _
    rw [show K.length - 5 + 5 = K.length by omega, List.getD_eq_getElem?_getD, List.getElem?_append_right (Nat.le_refl _), Nat.sub_self]
    rfl
theorem ny_P_app {E : ny_E} {K : ny_K} {I : ny_I} {R : ny_R} {H H1 : Heap} {kd : Nat × Nat} (h5 : 5 ≤ K.length) (hP : ny_P E K I R H) (hk : ∀ q, q < H.size → H1[q]? = H[q]?) (hn : va_at E.1 ny_cls (ny_sz E + (K.length - 5), ny_cell E kd (I K.length) (R K.length)) H1) : ny_P E (K ++ [kd]) I R H1 := by
  obtain ⟨p1, p2, p3, p4, p5⟩ := hP
  refine ⟨?_, p2, p3, p4, ?_⟩
  · rw [List.take_append_of_le_length h5]; exact p1
  · rw [ny_ws_app E I R kd h5]
    refine (p5.kept fun k x hx => hk x.1 (p5 k x hx).lt).app fun k x hx => ?_
    have hz : k < 1 := (List.getElem?_eq_some_iff.mp hx).1
    rw [show k = 0 by omega] at hx
    cases hx
    exact hn
section NYNW
variable {d mc ms own : Nat} {y : ny_M} {pc i a b : Nat} {v : Int32} {w : Int64} {L : ny_Lc} {S : List Value} {K : ny_K} {I : ny_I} {R : ny_R} {k n N : Nat} {Ret : ny_Q}
theorem ny_v_new {E : ny_E} {K : ny_K} {H : Heap} (h5 : 5 ≤ K.length) (hz : H.size + 5 = ny_sz E + K.length) : ny_v E (.ref K.length) = .ref H.size := by
  show (if K.length = 4 then va_rf (ny_fm E) else .ref (ny_ph E K.length)) = _
  rw [if_neg (by omega)]
  unfold ny_ph
  rw [if_neg (by omega), if_neg (by omega), if_neg (by omega), if_neg (by omega)]
  rw [show ny_sz E + (K.length - 5) = H.size by omega]
theorem ny_newi (hy : ny_chk own y = true) (hi : y.2.2.2.2.2[i]? = some (pc, 2, .newarray .int, a, b, v, w)) (hN : N < 2 ^ 20) (h5 : 5 ≤ K.length) (hI : I K.length = fun _ => 0) (hk2 : k + 1 ≤ mc) (hn2 : n + N ≤ ms) (h : ny_G d mc ms y (pc + 2) L (.ref K.length :: S) (K ++ [(1, N)]) I R (k + 1) (n + N) Ret) : ny_G d mc ms y pc L (.int (nI N) :: S) K I R k n Ret := by
  intro p l e Rm s m args below meth c H locs ls Q E C hk hn hR hl hq
  have hd := ny_dec hy hi
  obtain ⟨hx, hb, hr, hml, hown, hts, hlo, hin, hf1, hf2, hc, hs, hSS, hX, hsz⟩ := id C
  refine ny_szW hsz hR fun hsz2 => ?_
  have harr : (Cond.arrayClass (newarray.typeOf .int)).before args s = true := hts _ (ny_mem_tb (by decide +kernel))
  have hneg : ¬ nI N < 0 := fun q => absurd ((ny_lt (b := 0) (by omega) (by decide)).mp q) (by omega)
  refine va_newaK hx hb (atype := .int) harr rfl hd rfl hneg (nI_clamp (by omega)) (by show N * 4 ≤ 536870912; omega) (by omega) (by omega) rfl fun H' cA e1 e2 e3 e4 e5 => ?_
  have hRA : s.vm.findClass ("[" ++ (FieldType.int).toString) = some (E.2.1 0) := (hSS.1.2 0 _ rfl).2
  have hcA : cA = E.2.1 0 := Option.some.inj (e5.symm.trans hRA)
  subst hcA
  obtain ⟨hP, hS, hz⟩ := hR
  have hlen : (K ++ [(1, N)]).length = K.length + 1 := by rw [List.length_append]; rfl
  have hPn : ny_P E (K ++ [(1, N)]) I R H' := ny_P_app h5 hP e3 (by
    rw [show ny_sz E + (K.length - 5) = H.size by omega, hI]
    show H'[H.size]? = some (vp_cell _ _)
    rw [e1]; rfl)
  have hg := h p l e Rm s m args below meth c H' locs ls Q E C hk2 hn2 ⟨hPn, ⟨Nat.le_trans hS.1 (by omega), fun x h1 h2 => (e3 x (Nat.lt_of_lt_of_le h1 hS.1)).trans (hS.2.1 x h1 h2), hS.2.2⟩, by rw [hlen]; omega⟩ hl hq
  rw [List.map_cons, ny_v_new h5 hsz2] at hg
  exact hg
theorem ny_newb (hy : ny_chk own y = true) (hi : y.2.2.2.2.2[i]? = some (pc, 2, .newarray .byte, a, b, v, w)) (hN : N < 2 ^ 20) (h5 : 5 ≤ K.length) (hI : I K.length = fun _ => 0) (hk2 : k + 1 ≤ mc) (hn2 : n + N ≤ ms) (h : ny_G d mc ms y (pc + 2) L (.ref K.length :: S) (K ++ [(2, N)]) I R (k + 1) (n + N) Ret) : ny_G d mc ms y pc L (.int (nI N) :: S) K I R k n Ret := by
  intro p l e Rm s m args below meth c H locs ls Q E C hk hn hR hl hq
  have hd := ny_dec hy hi
  obtain ⟨hx, hb, hr, hml, hown, hts, hlo, hin, hf1, hf2, hc, hs, hSS, hX, hsz⟩ := id C
  refine ny_szW hsz hR fun hsz2 => ?_
  have harr : (Cond.arrayClass (newarray.typeOf .byte)).before args s = true := hts _ (ny_mem_tb (by decide +kernel))
  have hneg : ¬ nI N < 0 := fun q => absurd ((ny_lt (b := 0) (by omega) (by decide)).mp q) (by omega)
  refine va_newaK hx hb (atype := .byte) harr rfl hd rfl hneg (nI_clamp (by omega)) (by show N * 1 ≤ 536870912; omega) (by omega) (by omega) rfl fun H' cA e1 e2 e3 e4 e5 => ?_
  have hRA : s.vm.findClass ("[" ++ (FieldType.byte).toString) = some (E.2.1 1) := (hSS.1.2 1 _ rfl).2
  have hcA : cA = E.2.1 1 := Option.some.inj (e5.symm.trans hRA)
  subst hcA
  obtain ⟨hP, hS, hz⟩ := hR
  have hlen : (K ++ [(2, N)]).length = K.length + 1 := by rw [List.length_append]; rfl
  have hPn : ny_P E (K ++ [(2, N)]) I R H' := ny_P_app h5 hP e3 (by
    rw [show ny_sz E + (K.length - 5) = H.size by omega, hI]
    show H'[H.size]? = some (vp_cell _ _)
    rw [e1]; rfl)
  have hg := h p l e Rm s m args below meth c H' locs ls Q E C hk2 hn2 ⟨hPn, ⟨Nat.le_trans hS.1 (by omega), fun x h1 h2 => (e3 x (Nat.lt_of_lt_of_le h1 hS.1)).trans (hS.2.1 x h1 h2), hS.2.2⟩, by rw [hlen]; omega⟩ hl hq
  rw [List.map_cons, ny_v_new h5 hsz2] at hg
  exact hg
end NYNW
