/-! the constructors: a new cell -/
theorem ny_ws_app (E : ny_E) {K : ny_K} (I : ny_I) (R : ny_R) (kd : Nat × Nat) (h5 : 5 ≤ K.length) : ny_ws E (K ++ [kd]) I R = ny_ws E K I R ++ [(ny_sz E + (K.length - 5), ny_cell E kd (I K.length) (R K.length))] := by
  unfold ny_ws
  rw [List.length_append, show K.length + [kd].length - 5 = (K.length - 5) + 1 by show K.length + 1 - 5 = _; omega, List.range_succ, List.map_append]
  congr 1
  · refine List.map_congr_left fun j hj => ?_
    have hj := List.mem_range.mp hj
    rw [List.getD_eq_getElem?_getD, List.getD_eq_getElem?_getD, List.getElem?_append_left (by omega)]
  · show [(ny_sz E + (K.length - 5), ny_cell E ((K ++ [kd]).getD (K.length - 5 + 5) (0, 0)) (I (K.length - 5 + 5)) (R (K.length - 5 + 5)))] = _
    rw [show K.length - 5 + 5 = K.length by omega, List.getD_eq_getElem?_getD, List.getElem?_append_right (Nat.le_refl _), Nat.sub_self]
    rfl
theorem ny_P_app {E : ny_E} {K : ny_K} {I : ny_I} {R : ny_R} {H H1 : Heap} {kd : Nat × Nat} (h5 : 5 ≤ K.length) (hP : ny_P E K I R H) (hk : ∀ q, q < H.size → H1[q]? = H[q]?) (hn : va_at E.1 ny_cls (ny_sz E + (K.length - 5), ny_cell E kd (I K.length) (R K.length)) H1) : ny_P E (K ++ [kd]) I R H1 := by
  obtain ⟨p1, p2, p3, p4, p5⟩ := hP
  refine ⟨?_, p2, p3, p4, ?_⟩
  · rw [List.take_append_of_le_length h5]; exact p1
  · rw [ny_ws_app E I R kd h5]
    refine (p5.kept fun k x hx => hk x.1 (p5 k x hx).lt).app fun k x hx => ?_
    have hz : k < 1 := (List.getElem?_eq_some_iff.mp hx).1
    rw [show k = 0 by omega] at hx
    cases hx
    exact hn
