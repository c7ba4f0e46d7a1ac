/-! the constructors: what they leave is what was said of the memory -/
theorem ny_Iw_cell {I0 : ny_I} {c : Nat} : ∀ {ws : ny_ww}, (∀ q ∈ ws, q.1 ≠ c) → ny_Iw I0 ws c = I0 c
  | [], _ => rfl
  | q :: t, h => by
    show ny_up (ny_Iw I0 t) q.1 q.2.1 q.2.2 c = _
    rw [ny_upn _ _ _ _ c (fun e => h q List.mem_cons_self e.symm)]
    exact ny_Iw_cell fun x hx => h x (List.mem_cons_of_mem _ hx)
theorem ny_Iw_no {I0 : ny_I} {c j : Nat} : ∀ {ws : ny_ww}, (∀ q ∈ ws, ¬ (q.1 = c ∧ q.2.1 = j)) → ny_Iw I0 ws c j = I0 c j
  | [], _ => rfl
  | q :: t, h => by
    have ih := ny_Iw_no (I0 := I0) (c := c) (j := j) fun x hx => h x (List.mem_cons_of_mem _ hx)
    have h1 := h q List.mem_cons_self
    show ny_up (ny_Iw I0 t) q.1 q.2.1 q.2.2 c j = _
    by_cases hc : c = q.1
    · subst hc
      rw [ny_upo]
      unfold upd
      rw [if_neg (fun e => h1 ⟨rfl, e.symm⟩)]
      exact ih
    · rw [ny_upn _ _ _ _ c hc]
      exact ih
theorem ny_Iw_eq {I0 J0 : ny_I} {c j : Nat} (h : I0 c j = J0 c j) : ∀ ws : ny_ww, ny_Iw I0 ws c j = ny_Iw J0 ws c j
  | [] => h
  | q :: t => by
    have ih := ny_Iw_eq h t
    show ny_up (ny_Iw I0 t) q.1 q.2.1 q.2.2 c j = ny_up (ny_Iw J0 t) q.1 q.2.1 q.2.2 c j
    by_cases hc : c = q.1
    · subst hc
      rw [ny_upo, ny_upo]
      unfold upd
      rw [ih]
    · rw [ny_upn _ _ _ _ c hc, ny_upn _ _ _ _ c hc]
      exact ih
theorem ny_Rw_no {c j : Nat} : ∀ {rs : ny_wr}, (∀ q ∈ rs, ¬ (q.1 = c ∧ q.2.1 = j)) → ny_Rw rs c j = ny_R0 c j
  | [], _ => rfl
  | q :: t, h => by
    have ih := ny_Rw_no (c := c) (j := j) fun x hx => h x (List.mem_cons_of_mem _ hx)
    have h1 := h q List.mem_cons_self
    show (if c = q.1 ∧ j = q.2.1 then some q.2.2 else ny_Rw t c j) = _
    rw [if_neg (fun e => h1 ⟨e.1.symm, e.2.symm⟩)]
    exact ih
theorem ny_W2_at : (ny_W2.all fun q => decide (ny_Iw (fun _ _ => 0) ny_W2 q.1 q.2.1 = ny_i0 q.1 q.2.1)) = true := by decide +kernel
theorem ny_W1_fr : ny_fr 102 ny_W1 ny_R1 = true := by decide +kernel
theorem ny_W2_5 : (ny_W2.all fun q => Nat.ble 5 q.1) = true := by decide +kernel
theorem ny_W2_dm : ((List.range 120).all fun c => (List.range 66).all fun j => decide (ny_i0 c j = 0) || ny_W2.any (fun q => decide (q.1 = c ∧ q.2.1 = j))) = true := by decide +kernel
theorem ny_R2_at : (ny_R2.all fun q => decide (ny_Rw ny_R2 q.1 q.2.1 = ny_RR q.1 q.2.1)) = true := by decide +kernel
theorem ny_R2_dm : ((List.range 120).all fun c => (List.range 64).all fun j => decide (ny_RR c j = ny_R0 c j) || ny_R2.any (fun q => decide (q.1 = c ∧ q.2.1 = j))) = true := by decide +kernel
theorem ny_j2_hi {p q : Nat} {x y : Int32} {j : Nat} (h1 : p < 66) (h2 : q < 66) (h : 66 ≤ j) : ny_j2 p q x y j = 0 := by
  unfold ny_j2
  rw [if_neg (by omega), if_neg (by omega)]
theorem ny_i0_hi (c j : Nat) (h : 66 ≤ j) : ny_i0 c j = 0 := by
  unfold ny_i0
  split
  all_goals first
    | exact ny_j2_hi (by decide) (by decide) h
    | exact if_neg (by omega)
    | rfl
    | (show nI (ny_a0 j) = 0
       unfold ny_a0
       rw [if_neg (by omega), if_neg (by omega), if_neg (by omega)]
       rfl)
theorem ny_vald {I0 : ny_I} (h0 : ∀ c, 5 ≤ c → I0 c = fun _ => 0) {c j : Nat} (h5 : 5 ≤ c) (hc : c < 120) : ny_Iw I0 ny_W2 c j = ny_i0 c j := by
  by_cases hk : ∃ q ∈ ny_W2, q.1 = c ∧ q.2.1 = j
  · obtain ⟨q, hq, rfl, rfl⟩ := hk
    rw [ny_Iw_eq (J0 := fun _ _ => 0) (by rw [h0 _ h5])]
    exact of_decide_eq_true (List.all_eq_true.mp ny_W2_at q hq)
  · rw [ny_Iw_no (fun q hq e => hk ⟨q, hq, e⟩), h0 c h5]
    symm
    show ny_i0 c j = 0
    rcases Nat.lt_or_ge j 66 with hj | hj
    · have h1 := List.all_eq_true.mp (List.all_eq_true.mp ny_W2_dm c (List.mem_range.mpr hc)) j (List.mem_range.mpr hj)
      rw [Bool.or_eq_true, decide_eq_true_eq] at h1
      rcases h1 with h1 | h1
      · exact h1
      · obtain ⟨q, hq, e⟩ := List.any_eq_true.mp h1
        exact absurd ⟨q, hq, of_decide_eq_true e⟩ hk
    · exact ny_i0_hi c j hj
theorem ny_big_lt : ny_big < 2 ^ 61440 := by decide +kernel
theorem ny_RR_hi {c j : Nat} (h : 64 ≤ j ∨ 120 ≤ c) : ny_RR c j = none := by
  unfold ny_RR
  split
  next => rfl
  next hb =>
    have hj : j < 64 := by
      rcases Nat.lt_or_ge j 64 with h1 | h1
      · exact h1
      · rw [Nat.ble_eq_true_of_le h1] at hb
        cases hb
    have hc : 120 ≤ c := by omega
    have hz : ny_big >>> (8 * (64 * c + j)) = 0 := by
      rw [Nat.shiftRight_eq_div_pow]
      exact Nat.div_eq_of_lt (Nat.lt_of_lt_of_le ny_big_lt (Nat.pow_le_pow_right (by decide) (by omega)))
    rw [hz]
theorem ny_Rval : ny_Rw ny_R2 = ny_RR := by
  funext c j
  by_cases hk : ∃ q ∈ ny_R2, q.1 = c ∧ q.2.1 = j
  · obtain ⟨q, hq, rfl, rfl⟩ := hk
    exact of_decide_eq_true (List.all_eq_true.mp ny_R2_at q hq)
  · rw [ny_Rw_no (fun q hq e => hk ⟨q, hq, e⟩)]
    by_cases hh : 64 ≤ j ∨ 120 ≤ c
    · rw [ny_RR_hi hh]
      exact if_neg (by omega)
    · have h1 := List.all_eq_true.mp (List.all_eq_true.mp ny_R2_dm c (List.mem_range.mpr (by omega))) j (List.mem_range.mpr (by omega))
      rw [Bool.or_eq_true, decide_eq_true_eq] at h1
      rcases h1 with h1 | h1
      · exact h1.symm
      · obtain ⟨q, hq, e⟩ := List.any_eq_true.mp h1
        exact absurd ⟨q, hq, of_decide_eq_true e⟩ hk
