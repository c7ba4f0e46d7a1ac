/-! the model: wills, the act of the rest -/
theorem nz_shn_le {a : ny_a} {k : Nat} (hV : ny_V a) (hk : k < 6) : ny_shn a k ≤ 11 := by
  unfold ny_shn
  split
  · exact ny_shw_le (hV.2.1 k hk).2.2.1 (by omega)
  · omega
theorem nz_pay_le {a : ny_a} {k : Nat} (hV : ny_V a) (hk : k < 6) : ny_pay a k ≤ 19 := by
  have := (hV.2.1 k hk).2.2.1
  unfold ny_pay
  split <;> omega
theorem nz_wry_le {a : ny_a} {k : Nat} (hV : ny_V a) : ny_wry a k ≤ 30 := by
  have := hV.1
  unfold ny_wry
  exact Nat.le_trans (Nat.sub_le _ _) (ny_wear_le (by omega) (nz_W_le hV _))
theorem nz_wlf_le {a : ny_a} {k : Nat} (hV : ny_V a) : ∀ n r, r + n = a 5 → ny_wlf a k r n ≤ 2 := by
  intro n
  induction n with
  | zero => intro r _; exact Nat.zero_le _
  | succ n ih =>
    intro r h
    rw [ny_wlf]
    split
    · exact (hV.2.2.2.2.2.1 r (by omega)).2.1
    · exact ih (r + 1) (by omega)
theorem nz_wil_le {a : ny_a} {k : Nat} (hV : ny_V a) : ny_wil a k ≤ 2 := nz_wlf_le hV (a 5) 0 (by omega)
def ny_rsf (a : ny_a) : Nat → Nat → Nat
  | _, 0 => 0
  | o, n + 1 => if ny_may a o then o + 1 else ny_rsf a (o + 1) n
/-- the act of the rest -/
def ny_rst (a : ny_a) : Nat := ny_rsf a 0 (a 0)
theorem nz_rsf_le {a : ny_a} : ∀ n o, ny_rsf a o n ≤ o + n := by
  intro n
  induction n with
  | zero => intro o; exact Nat.zero_le _
  | succ n ih =>
    intro o
    rw [ny_rsf]
    split
    · omega
    · have := ih (o + 1); omega
section NZJ
variable {d Ln : Nat} {I : ny_I} {Q : Int32 → ny_I → Prop} {a : ny_a}
theorem q_Md_holds {k r : Nat} (ha : ny_Md I a) (hV : ny_V a) (hk : k < 6) (hr : r < a 5) (h : Q (if ny_hol a r k then nI 1 else nI 0) I) : ny_C1 (d + 2) m_Md_holds [.ref 102, .int (nI r), .int (nI k)] Ln I Q := by
  have V1 := hV.1; have V2 := hV.2.1; have V3 := hV.2.2.1; have V4 := hV.2.2.2.1; have V5 := hV.2.2.2.2.1; obtain ⟨v0, v1, v2, v3, v5, v6, v7⟩ := V1
  obtain ⟨r1, r2, r3, r4, r5, r6⟩ := hV.2.2.2.2.2.1 r hr
  refine s_Md_holds_0 ?_
  have e : 66 + 4 * r + 2 = 68 + 4 * r := by omega
  simp (disch := omega) only [ny_lit, nI_add, ny_mul, nI_clamp, ny_le, ny_lt, ny_eq, ny_div, ny_rem, ny_rem2, ny_inN, ha _, true_and, e]
  refine q_Md_holdsL ha hV hk hr (a (69 + 4 * r) - a (68 + 4 * r)) 0 1 (by omega) (by show 1 < 2 ^ (1 + 1); decide) ?_
  simp only [ny_hol, decide_eq_true_eq] at h
  exact h
theorem q_Md_willL {k : Nat} (ha : ny_Md I a) (hV : ny_V a) (hk : k < 6) : ∀ n r, r + n = a 5 → Q (nI (ny_wlf a k r n)) I → ny_g (d + 3) m_Md_will 2 [(0, .ref 102), (1, .int (nI k)), (2, .int (nI r))] [] Ln I (ny_r1 Ln Q) := by
  have V1 := hV.1; have V2 := hV.2.1; have V3 := hV.2.2.1; have V4 := hV.2.2.2.1; have V5 := hV.2.2.2.2.1; obtain ⟨v0, v1, v2, v3, v5, v6, v7⟩ := V1
  have U := V2 k hk
  intro n
  induction n with
  | zero =>
    intro r hr h
    refine s_Md_will_2 ?_
    simp (disch := omega) only [ny_lit, nI_add, ny_mul, nI_clamp, ny_le, ny_lt, ny_eq, ny_div, ny_rem, ny_rem2, ny_inN, ha _, true_and]
    exact ⟨fun _ => h, fun c => absurd c (by omega)⟩
  | succ n ih =>
    intro r hr h
    obtain ⟨r1, r2, r3, r4, r5, r6⟩ := hV.2.2.2.2.2.1 r (by omega)
    rw [ny_wlf] at h
    refine s_Md_will_2 ?_
    simp (disch := omega) only [ny_lit, nI_add, ny_mul, nI_clamp, ny_le, ny_lt, ny_eq, ny_div, ny_rem, ny_rem2, ny_inN, ha _, true_and]
    refine ⟨fun c => absurd c (by omega), fun _ => q_Md_t0 ha hk ?_⟩
    rw [ha _]
    refine q_Md_isUnder (by omega) (by omega) ?_
    by_cases c : ny_und (a (8 + 5 * k)) (a (66 + 4 * r)) = true
    · rw [if_pos c]
      refine ⟨fun q => absurd q (by decide), fun _ => q_Md_holds ha hV hk (by omega) ?_⟩
      by_cases c2 : ny_hol a r k = true
      · rw [if_pos c2]
        rw [c, c2, Bool.and_true, if_pos rfl] at h
        refine ⟨fun q => absurd q (by decide), fun _ => ?_⟩
        have e : 66 + 4 * r + 1 = 67 + 4 * r := by omega
        simp (disch := omega) only [ny_lit, nI_add, ny_mul, nI_clamp, ny_le, ny_lt, ny_eq, ny_div, ny_rem, ny_rem2, ny_inN, ha _, true_and, e]
        exact h
      · rw [if_neg c2]
        rw [c, Bool.true_and, if_neg c2] at h
        exact ⟨fun _ => ih (r + 1) (by omega) h, fun q => absurd rfl q⟩
    · rw [if_neg c]
      rw [if_neg (by simp [c])] at h
      exact ⟨fun _ => ih (r + 1) (by omega) h, fun q => absurd rfl q⟩
theorem q_Md_will {k : Nat} (ha : ny_Md I a) (hV : ny_V a) (hk : k < 6) (h : Q (nI (ny_wil a k)) I) : ny_C1 (d + 3) m_Md_will [.ref 102, .int (nI k)] Ln I Q :=
  s_Md_will_0 (q_Md_willL ha hV hk (a 5) 0 (by omega) h)
theorem q_Md_mayBe {k : Nat} (ha : ny_Md I a) (hV : ny_V a) (hk : k < 6) (h : Q (if ny_may a k then nI 1 else nI 0) I) : ny_C1 (d + 4) m_Md_mayBe [.ref 102, .int (nI k)] Ln I Q := by
  have hp := nz_pay_le hV hk
  have hw := nz_wil_le (k := k) hV
  refine s_Md_mayBe_0 (q_Md_pays (d := d + 1) ha hV hk ?_)
  simp (disch := omega) only [ny_lit, nI_add, ny_mul, nI_clamp, ny_le, ny_lt, ny_eq, ny_div, ny_rem, ny_rem2, ny_inN]
  refine ⟨fun c => ?_, fun c => q_Md_will ha hV hk ?_⟩
  · rw [if_neg (by simp [ny_may]; omega)] at h; exact h
  · simp (disch := omega) only [ny_lit, nI_add, ny_mul, nI_clamp, ny_le, ny_lt, ny_eq, ny_div, ny_rem, ny_rem2, ny_inN]
    refine ⟨fun c2 => ?_, fun c2 => ?_⟩
    · rw [if_neg (by simp [ny_may]; omega)] at h; exact h
    · rw [if_pos (by simp [ny_may]; omega)] at h; exact h
theorem q_Md_restActL (ha : ny_Md I a) (hV : ny_V a) : ∀ n o, o + n = a 0 → Q (nI (ny_rsf a o n)) I → ny_g (d + 5) m_Md_restAct 2 [(0, .ref 102), (1, .int (nI o))] [] Ln I (ny_r1 Ln Q) := by
  have V1 := hV.1; have V2 := hV.2.1; have V3 := hV.2.2.1; have V4 := hV.2.2.2.1; have V5 := hV.2.2.2.2.1; obtain ⟨v0, v1, v2, v3, v5, v6, v7⟩ := V1
  intro n
  induction n with
  | zero =>
    intro o ho h
    refine s_Md_restAct_2 ?_
    simp (disch := omega) only [ny_lit, nI_add, ny_mul, nI_clamp, ny_le, ny_lt, ny_eq, ny_div, ny_rem, ny_rem2, ny_inN, ha _, true_and]
    exact ⟨fun _ => h, fun c => absurd c (by omega)⟩
  | succ n ih =>
    intro o ho h
    rw [ny_rsf] at h
    refine s_Md_restAct_2 ?_
    simp (disch := omega) only [ny_lit, nI_add, ny_mul, nI_clamp, ny_le, ny_lt, ny_eq, ny_div, ny_rem, ny_rem2, ny_inN, ha _, true_and]
    refine ⟨fun c => absurd c (by omega), fun _ => q_Md_mayBe ha hV (by omega) ?_⟩
    by_cases c : ny_may a o = true
    · rw [if_pos c] at h ⊢
      exact ⟨fun q => absurd q (by decide), fun _ => h⟩
    · rw [if_neg c] at h ⊢
      exact ⟨fun _ => ih (o + 1) (by omega) h, fun q => absurd rfl q⟩
theorem q_Md_restAct (ha : ny_Md I a) (hV : ny_V a) (h : Q (nI (ny_rst a)) I) : ny_C1 (d + 5) m_Md_restAct [.ref 102] Ln I Q :=
  s_Md_restAct_0 (q_Md_restActL ha hV (a 0) 0 (by omega) h)
end NZJ
/-! what a bell changes, and what not -/
theorem nz_dp_c {a a' : ny_a} (h : ∀ j, 122 ≤ j → a' j = a j) (b : Nat) : ∀ j, ny_dp a' b j = ny_dp a b j := by
  intro j
  induction j with
  | zero => rfl
  | succ j ih => rw [ny_dp, ny_dp, ih, h _ (by omega)]
/-- all that a bell lets be -/
def ny_Sm (a' a : ny_a) : Prop := ∀ j, j ≠ 1 → j ≠ 3 → (∀ k, k < 6 → j ≠ 9 + 5 * k ∧ j ≠ 12 + 5 * k) → a' j = a j
theorem nz_V_mv {a a' : ny_a} (hV : ny_V a) (hs : ny_Sm a' a) (h1 : a' 1 ≤ a 2) (h2 : ∀ k, k < 6 → a' (9 + 5 * k) ≤ 99 ∧ a' (12 + 5 * k) ≤ 1) : ny_V a' := by
  have e : ∀ j, j ≠ 1 → j ≠ 3 → (j < 9 ∨ 38 ≤ j) → a' j = a j := fun j a1 a3 h => hs j a1 a3 fun k hk => by omega
  have eh : ∀ j, 38 ≤ j → a' j = a j := fun j h => e j (by omega) (by omega) (Or.inr h)
  have e8 : ∀ k, k < 6 → a' (8 + 5 * k) = a (8 + 5 * k) ∧ a' (10 + 5 * k) = a (10 + 5 * k) ∧ a' (11 + 5 * k) = a (11 + 5 * k) := fun k hk =>
    ⟨hs _ (by omega) (by omega) fun q hq => by omega, hs _ (by omega) (by omega) fun q hq => by omega, hs _ (by omega) (by omega) fun q hq => by omega⟩
  have e0 := e 0 (by omega) (by omega) (by omega)
  have e2 := e 2 (by omega) (by omega) (by omega)
  have e5 := e 5 (by omega) (by omega) (by omega)
  have e6 := e 6 (by omega) (by omega) (by omega)
  have e7 := e 7 (by omega) (by omega) (by omega)
  obtain ⟨⟨v0, v1, v2, v3, v5, v6, v7⟩, V2, V3, V4, V5, V6, V7, V8⟩ := hV
  refine ⟨⟨by omega, by omega, by omega, by omega, by omega, by omega, by omega⟩, fun k hk => ?_, fun k hk => ?_, fun f hf => ?_, fun b hb => ?_, fun r hr => ?_, fun r hr => ?_, fun i hi => ?_⟩
  · obtain ⟨q1, q2, q3⟩ := e8 k hk
    have := V2 k hk
    have := h2 k hk
    rw [q1, q2, q3]
    omega
  · rw [(e8 k (by omega)).1]
    exact V3 k (by omega)
  · rw [eh _ (by omega), eh _ (by omega)]; exact V4 f hf
  · rw [eh _ (by omega)]; exact V5 b hb
  · rw [eh _ (by omega), eh _ (by omega), eh _ (by omega), eh _ (by omega), e7, eh _ (by omega)]
    obtain ⟨w1, w2, w3, w4, w5, w6⟩ := V6 r (by omega)
    refine ⟨w1, w2, w3, w4, w5, fun j hj => ?_⟩
    rw [nz_dp_c (a := a) (fun j hj => eh j (by omega))]
    exact w6 j hj
  · rw [eh _ (by omega), eh _ (by omega), eh _ (by omega), eh _ (by omega)]; exact V7 r (by omega)
  · rw [eh _ (by omega), eh _ (by omega), eh _ (by omega)]; exact V8 i (by omega)
