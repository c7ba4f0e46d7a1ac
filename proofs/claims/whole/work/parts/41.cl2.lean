/-! the class: figures -/
section NZD
variable {d Ln : Nat} {I : ny_I} {Q : Int32 → ny_I → Prop} {Q0 : ny_I → Prop} {a : ny_a} {c : Nat}
theorem q_Ba_isFigure {k : Nat} (hB : ny_Ba I a) (hV : ny_V a) (hk : k < 2 ^ 31) (h : Q (if k < a 0 then nI 1 else nI 0) I) : ny_C1 d m_Ba_isFigure [.ref 6, .int (nI k)] Ln I Q := by
  have V1 := hV.1; have V2 := hV.2.1; have V3 := hV.2.2.1; have V4 := hV.2.2.2.1; have V5 := hV.2.2.2.2.1; obtain ⟨v0, v1, v2, v3, v5, v6, v7⟩ := V1
  refine s_Ba_isFigure_0 ?_
  rw [hB.1.1]
  refine ⟨fun q => absurd q (nI_pos hk), fun _ => ?_⟩
  simp (disch := omega) only [ny_lit, nI_add, ny_mul, nI_clamp, ny_le, ny_lt, ny_eq, ny_div, ny_rem, ny_rem2, ny_inN]
  refine ⟨fun q => ?_, fun q => ?_⟩
  · rw [if_neg (by omega)] at h; exact h
  · rw [if_pos (by omega)] at h; exact h
theorem q_Ba_isFigureX {x : Int32} (hB : ny_Ba I a) (hV : ny_V a) (h1 : ∀ k, k < a 0 → x = nI k → Q (nI 1) I) (h0 : (∀ k, k < a 0 → ¬ x = nI k) → Q (nI 0) I) : ny_C1 d m_Ba_isFigure [.ref 6, .int x] Ln I Q := by
  have V1 := hV.1; have V2 := hV.2.1; have V3 := hV.2.2.1; have V4 := hV.2.2.2.1; have V5 := hV.2.2.2.2.1; obtain ⟨v0, v1, v2, v3, v5, v6, v7⟩ := V1
  by_cases hx : x < 0
  · refine s_Ba_isFigure_0 ⟨fun _ => h0 fun k hk e => ?_, fun q => absurd hx q⟩
    rw [e] at hx
    exact nI_pos (by omega) hx
  · obtain ⟨j, hj, rfl⟩ := nI_of hx
    refine q_Ba_isFigure hB hV hj ?_
    by_cases hj2 : j < a 0
    · rw [if_pos hj2]; exact h1 j hj2 rfl
    · rw [if_neg hj2]
      refine h0 fun k hk e => hj2 ?_
      rw [(ny_eq hj (by omega)).mp e]; exact hk
theorem q_Mo_isRelieved {k : Nat} (hc : ny_mc c) (hM : ny_Mo I c a) (hk : k < 6) (h : Q (if k < a 0 ∧ a (12 + 5 * k) = 1 then nI 1 else nI 0) I) : ny_C1 d m_Mo_isRelieved [.ref c, .int (nI k)] Ln I Q := by
  obtain ⟨-, -, m, hm, e, hb⟩ := hM
  refine s_Mo_isRelieved_0 hc ?_
  rw [e]
  have h1 := nz_bit m hm k hk
  have h2 := hb k hk
  rw [h1, h2]
  refine ⟨fun q => ?_, fun q => ?_⟩
  · rw [if_neg (by simpa using q)] at h; exact h
  · rw [if_pos (by simpa using q)] at h; exact h
theorem q_Ba_isUp {k : Nat} (hc : ny_mc c) (hB : ny_Ba I a) (hM : ny_Mo I c a) (hV : ny_V a) (hk : k < a 0) (h : Q (if ny_upb a k then nI 1 else nI 0) I) : ny_C1 (d + 1) m_Ba_isUp [.ref 6, .ref c, .int (nI k)] Ln I Q := by
  have V1 := hV.1; have V2 := hV.2.1; have V3 := hV.2.2.1; have V4 := hV.2.2.2.1; have V5 := hV.2.2.2.2.1; obtain ⟨v0, v1, v2, v3, v5, v6, v7⟩ := V1
  have U := V2 k (by omega)
  refine s_Ba_isUp_0 hc (q_Ba_isFigure hB hV (by omega) ?_)
  rw [if_pos hk]
  refine ⟨fun q => absurd q (by decide), fun _ => q_Mo_isRelieved hc hM (by omega) ?_⟩
  by_cases hr : a (12 + 5 * k) = 1
  · rw [if_pos ⟨hk, hr⟩]
    refine ⟨fun _ => ?_, fun q => absurd q (by decide)⟩
    rw [if_neg (by simp [ny_upb]; omega)] at h; exact h
  · rw [if_neg (fun q => hr q.2)]
    refine ⟨fun q => absurd rfl q, fun _ => ?_⟩
    simp (disch := omega) only [ny_lit, nI_add, ny_mul, nI_clamp, ny_le, ny_lt, ny_eq, ny_div, ny_rem, ny_rem2, ny_inN, true_and]
    rw [hM.2.1 k hk]
    simp (disch := omega) only [ny_lit, nI_add, ny_mul, nI_clamp, ny_le, ny_lt, ny_eq, ny_div, ny_rem, ny_rem2, ny_inN, true_and]
    refine ⟨fun q => ?_, fun q => ?_⟩
    · rw [if_neg (by simp [ny_upb]; omega)] at h; exact h
    · rw [if_pos (by simp [ny_upb]; omega)] at h; exact h
theorem q_Ba_weatherOf {b : Nat} (hB : ny_Ba I a) (hb : b < 2 ^ 31) (h : Q (nI (nz_W a b)) I) : ny_C1 d m_Ba_weatherOf [.ref 6, .int (nI b)] Ln I Q := by
  refine s_Ba_weatherOf_0 ⟨fun q => absurd q (nI_pos hb), fun _ => ?_⟩
  simp (disch := omega) only [ny_lit, nI_add, ny_mul, nI_clamp, ny_le, ny_lt, ny_eq, ny_div, ny_rem, ny_rem2, ny_inN]
  refine ⟨fun q => ?_, fun q => ?_⟩
  · rw [nz_W, if_neg (by omega)] at h; exact h
  · simp (disch := omega) only [ny_lit, nI_add, ny_mul, nI_clamp, ny_le, ny_lt, ny_eq, ny_div, ny_rem, ny_rem2, ny_inN, true_and]
    rw [hB.2.2.2.1 b (by omega)]
    rw [nz_W, if_pos (by omega)] at h; exact h
theorem q_Ba_sunOf {b : Nat} (hB : ny_Ba I a) (hV : ny_V a) (hb : b < 2 ^ 31) (h : Q (nI (nz_W a b / 4)) I) : ny_C1 (d + 1) m_Ba_sunOf [.ref 6, .int (nI b)] Ln I Q := by
  have hw := nz_W_le hV b
  refine s_Ba_sunOf_0 (q_Ba_weatherOf hB hb ?_)
  simp (disch := omega) only [ny_lit, nI_add, ny_mul, nI_clamp, ny_le, ny_lt, ny_eq, ny_div, ny_rem, ny_rem2, ny_inN]
  exact h
theorem q_Ba_guestsOf {b : Nat} (hB : ny_Ba I a) (hV : ny_V a) (hb : b < 2 ^ 31) (h : Q (nI (nz_W a b % 4)) I) : ny_C1 (d + 1) m_Ba_guestsOf [.ref 6, .int (nI b)] Ln I Q := by
  have hw := nz_W_le hV b
  refine s_Ba_guestsOf_0 (q_Ba_weatherOf hB hb ?_)
  simp (disch := omega) only [ny_lit, nI_add, ny_mul, nI_clamp, ny_le, ny_lt, ny_eq, ny_div, ny_rem, ny_rem2, ny_inN]
  exact h
theorem q_Ba_wearies {k : Nat} (hc : ny_mc c) (hB : ny_Ba I a) (hM : ny_Mo I c a) (hV : ny_V a) (hk : k < a 0) (h : Q (nI (ny_wry a k)) I) : ny_C1 (d + 2) m_Ba_wearies [.ref 6, .ref c, .int (nI k)] Ln I Q := by
  have V1 := hV.1; have V2 := hV.2.1; have V3 := hV.2.2.1; have V4 := hV.2.2.2.1; have V5 := hV.2.2.2.2.1; obtain ⟨v0, v1, v2, v3, v5, v6, v7⟩ := V1
  have U := V2 k (by omega)
  have hw := nz_W_le hV (a 1)
  obtain ⟨b1, b2, b3⟩ := hB.2.1 k hk
  have b4 := hB.2.2.1 (a (11 + 5 * k)) (by omega)
  have v4 := V4 (a (11 + 5 * k)) (by omega)
  have hr := ny_wear_le (kind := a (8 + 5 * k)) (bell := a 1) (w := nz_W a (a 1)) (by omega) hw
  refine s_Ba_wearies_0 hc ?_
  simp (disch := omega) only [ny_lit, nI_add, ny_mul, nI_clamp, ny_le, ny_lt, ny_eq, ny_div, ny_rem, ny_rem2, ny_inN, true_and]
  rw [hM.1]
  refine q_Ba_sunOf hB hV (by omega) ?_
  rw [b1, hM.1]
  refine q_Ki_wearies (V3 k hk) (by omega) (by omega) (by omega) ?_
  rw [b3]
  simp (disch := omega) only [ny_lit, nI_add, ny_mul, nI_clamp, ny_le, ny_lt, ny_eq, ny_div, ny_rem, ny_rem2, ny_inN, true_and]
  rw [b4.1]
  have e : (if nI 0 < nI (ny_wear (a (8 + 5 * k)) (a 1) (nz_W a (a 1))) - nI (a (38 + a (11 + 5 * k))) then nI (ny_wear (a (8 + 5 * k)) (a 1) (nz_W a (a 1))) - nI (a (38 + a (11 + 5 * k))) else nI 0) = nI (ny_wry a k) := ny_max0 (by omega) (by omega)
  rw [e]
  exact h
theorem q_Ba_shows {k : Nat} (hc : ny_mc c) (hB : ny_Ba I a) (hM : ny_Mo I c a) (hV : ny_V a) (hk : k < a 0) (h : Q (nI (ny_shn a k)) I) : ny_C1 (d + 2) m_Ba_shows [.ref 6, .ref c, .int (nI k)] Ln I Q := by
  have V1 := hV.1; have V2 := hV.2.1; have V3 := hV.2.2.1; have V4 := hV.2.2.2.1; have V5 := hV.2.2.2.2.1; obtain ⟨v0, v1, v2, v3, v5, v6, v7⟩ := V1
  have U := V2 k (by omega)
  have hw := nz_W_le hV (a 1)
  obtain ⟨b1, b2, b3⟩ := hB.2.1 k hk
  refine s_Ba_shows_0 hc (q_Ba_isUp hc hB hM hV hk ?_)
  by_cases hu : ny_upb a k
  · rw [if_pos hu]
    refine ⟨fun q => absurd q (by decide), fun _ => ?_⟩
    simp (disch := omega) only [ny_lit, nI_add, ny_mul, nI_clamp, ny_le, ny_lt, ny_eq, ny_div, ny_rem, ny_rem2, ny_inN, true_and]
    rw [hM.1]
    refine q_Ba_guestsOf hB hV (by omega) ?_
    rw [b1, b2]
    refine q_Ki_shows (V3 k hk) (by omega) (by omega) (by omega) (by omega) ?_
    rw [ny_shn, if_pos hu] at h
    exact h
  · rw [if_neg hu]
    refine ⟨fun _ => ?_, fun q => absurd rfl q⟩
    rw [ny_shn, if_neg hu] at h
    exact h
theorem q_Ba_pays {k : Nat} (hc : ny_mc c) (hB : ny_Ba I a) (hM : ny_Mo I c a) (hV : ny_V a) (hk : k < a 0) (h : Q (nI (ny_pay a k)) I) : ny_C1 (d + 2) m_Ba_pays [.ref 6, .ref c, .int (nI k)] Ln I Q := by
  have V1 := hV.1; have V2 := hV.2.1; have V3 := hV.2.2.1; have V4 := hV.2.2.2.1; have V5 := hV.2.2.2.2.1; obtain ⟨v0, v1, v2, v3, v5, v6, v7⟩ := V1
  have U := V2 k (by omega)
  obtain ⟨b1, b2, b3⟩ := hB.2.1 k hk
  refine s_Ba_pays_0 hc (q_Ba_isUp hc hB hM hV hk ?_)
  by_cases hu : ny_upb a k
  · rw [if_pos hu]
    refine ⟨fun q => absurd q (by decide), fun _ => ?_⟩
    have := Nat.div_le_self (a (9 + 5 * k)) 8
    simp (disch := omega) only [ny_lit, nI_add, ny_mul, nI_clamp, ny_le, ny_lt, ny_eq, ny_div, ny_rem, ny_rem2, ny_inN, true_and]
    rw [b2, hM.2.1 k hk]
    simp (disch := omega) only [ny_lit, nI_add, ny_mul, nI_clamp, ny_le, ny_lt, ny_eq, ny_div, ny_rem, ny_rem2, ny_inN, true_and]
    have e : (if nI 0 < nI (10 + a (10 + 5 * k)) - nI (a (9 + 5 * k) / 8) then nI (10 + a (10 + 5 * k)) - nI (a (9 + 5 * k) / 8) else nI 0) = nI (10 + a (10 + 5 * k) - a (9 + 5 * k) / 8) := ny_max0 (by omega) (by omega)
    rw [e]
    rw [ny_pay, if_pos hu] at h
    exact h
  · rw [if_neg hu]
    refine ⟨fun _ => ?_, fun q => absurd rfl q⟩
    rw [ny_pay, if_neg hu] at h
    exact h
end NZD
