/-! the model's small methods -/
section NZM
variable {d Ln : Nat} {I : ny_I} {Q : Int32 → ny_I → Prop} {a : ny_a}
theorem q_Md_its {k w : Nat} (ha : ny_Md I a) (hk : k < 6) (hw : w < 5) (h : Q (nI (a (8 + 5 * k + w))) I) : ny_C1 d m_Md_its [.ref 102, .int (nI k), .int (nI w)] Ln I Q := by
  refine s_Md_its_0 ?_
  simp (disch := omega) only [ny_lit, nI_add, ny_mul, nI_clamp, ny_inN, ha _, true_and]
  exact h
theorem q_Md_t0 {k : Nat} (ha : ny_Md I a) (hk : k < 6) (h : Q (nI (a (8 + 5 * k))) I) : ny_C1 d m_Md_its [.ref 102, .int (nI k), .int (nI 0)] Ln I Q :=
  q_Md_its ha hk (by decide) (by rw [show 8 + 5 * k + 0 = 8 + 5 * k by omega]; exact h)
theorem q_Md_t1 {k : Nat} (ha : ny_Md I a) (hk : k < 6) (h : Q (nI (a (9 + 5 * k))) I) : ny_C1 d m_Md_its [.ref 102, .int (nI k), .int (nI 1)] Ln I Q :=
  q_Md_its ha hk (by decide) (by rw [show 8 + 5 * k + 1 = 9 + 5 * k by omega]; exact h)
theorem q_Md_t2 {k : Nat} (ha : ny_Md I a) (hk : k < 6) (h : Q (nI (a (10 + 5 * k))) I) : ny_C1 d m_Md_its [.ref 102, .int (nI k), .int (nI 2)] Ln I Q :=
  q_Md_its ha hk (by decide) (by rw [show 8 + 5 * k + 2 = 10 + 5 * k by omega]; exact h)
theorem q_Md_t3 {k : Nat} (ha : ny_Md I a) (hk : k < 6) (h : Q (nI (a (11 + 5 * k))) I) : ny_C1 d m_Md_its [.ref 102, .int (nI k), .int (nI 3)] Ln I Q :=
  q_Md_its ha hk (by decide) (by rw [show 8 + 5 * k + 3 = 11 + 5 * k by omega]; exact h)
theorem q_Md_t4 {k : Nat} (ha : ny_Md I a) (hk : k < 6) (h : Q (nI (a (12 + 5 * k))) I) : ny_C1 d m_Md_its [.ref 102, .int (nI k), .int (nI 4)] Ln I Q :=
  q_Md_its ha hk (by decide) (by rw [show 8 + 5 * k + 4 = 12 + 5 * k by omega]; exact h)
theorem q_Md_weatherOf {b : Nat} (ha : ny_Md I a) (hb : b < 2 ^ 30) (h : Q (nI (nz_W a b)) I) : ny_C1 d m_Md_weatherOf [.ref 102, .int (nI b)] Ln I Q := by
  refine s_Md_weatherOf_0 ?_
  simp (disch := omega) only [ny_lit, nI_add, ny_le]
  refine ⟨fun c => ?_, fun c => ?_⟩
  · rw [nz_W, if_neg (by omega)] at h
    exact h
  · rw [nz_W, if_pos (by omega)] at h
    simp (disch := omega) only [nI_clamp, ny_inN, ha _, true_and]
    exact h
theorem q_Md_greatest {x y : Int32} (h : Q (if y < x then x else y) I) : ny_C1 d m_Md_greatest [.int x, .int y] Ln I Q := by
  refine s_Md_greatest_0 ⟨fun c => ?_, fun c => ?_⟩
  · rw [if_neg (Int32.not_lt.mpr c)] at h; exact h
  · rw [if_pos (Int32.not_le.mp c)] at h; exact h
theorem q_Md_least {x y : Int32} (h : Q (if x < y then x else y) I) : ny_C1 d m_Md_least [.int x, .int y] Ln I Q := by
  refine s_Md_least_0 ⟨fun c => ?_, fun c => ?_⟩
  · rw [if_neg (Int32.not_lt.mpr c)] at h; exact h
  · rw [if_pos (Int32.not_le.mp c)] at h; exact h
theorem q_Md_gr0 {x y : Nat} (hx : x < 2 ^ 30) (hy : y < 2 ^ 30) (h : Q (nI (x - y)) I) : ny_C1 d m_Md_greatest [.int (nI 0), .int (nI x - nI y)] Ln I Q := by
  refine q_Md_greatest ?_
  rw [show nI 0 = (0 : Int32) from rfl, ny_max0' hx hy]
  exact h
theorem q_Md_lst {x y : Nat} (hx : x < 2 ^ 30) (hy : y < 2 ^ 30) (h : Q (nI (min x y)) I) : ny_C1 d m_Md_least [.int (nI x), .int (nI y)] Ln I Q := by
  refine q_Md_least ?_
  rw [ny_min (by omega) (by omega)]
  exact h
theorem q_Md_wearies {kind bell w : Nat} (hk : kind < 2 ^ 20) (hb : bell < 2 ^ 20) (hw : w < 2 ^ 20) (h : Q (nI (ny_wear kind bell w)) I) : ny_C1 (d + 1) m_Md_wearies [.int (nI kind), .int (nI bell), .int (nI w)] Ln I Q := by
  refine s_Md_wearies_0 ?_
  have h4 := Nat.div_le_self w 4
  have h5 := Nat.div_le_self bell 4
  have h6 : bell % 2 < 2 := Nat.mod_lt _ (by decide)
  simp (disch := omega) only [ny_lit, nI_add, ny_mul, nI_clamp, ny_le, ny_lt, ny_eq, ny_div, ny_rem, ny_rem2, ny_inN, true_and, and_true]
  refine ⟨fun c => ?_, fun c => ?_, fun c => q_Md_gr0 (by omega) (by omega) ?_, fun c => ?_, fun c1 c2 c3 c4 => ⟨fun c => ?_, fun c => ?_⟩⟩ <;>
  · simp_all [ny_wear]
theorem q_Md_shows {kind grace number w : Nat} (hk : kind < 2 ^ 20) (hb : grace < 2 ^ 20) (hn : number < 2 ^ 20) (hw : w < 2 ^ 20) (h : Q (nI (ny_shw kind grace number w)) I) : ny_C1 (d + 1) m_Md_shows [.int (nI kind), .int (nI grace), .int (nI number), .int (nI w)] Ln I Q := by
  refine s_Md_shows_0 ?_
  have h4 : w % 4 < 4 := Nat.mod_lt _ (by decide)
  have h5 := Nat.div_le_self grace 3
  simp (disch := omega) only [ny_lit, nI_add, ny_mul, nI_clamp, ny_le, ny_lt, ny_eq, ny_div, ny_rem, ny_rem2, ny_inN, true_and, and_true]
  refine ⟨fun c => q_Md_lst (by omega) (by omega) ?_, fun c => ?_, fun c => q_Md_gr0 (by omega) (by omega) ?_, fun c => ?_, fun c1 c2 c3 c4 => ?_⟩ <;>
  · simp_all [ny_shw]
theorem q_Md_isOver (ha : ny_Md I a) (hV : ny_V a) (h : Q (if a 2 ≤ a 1 then nI 1 else nI 0) I) : ny_C1 d m_Md_isOver [.ref 102] Ln I Q := by
  have V1 := hV.1; have V2 := hV.2.1; have V3 := hV.2.2.1; have V4 := hV.2.2.2.1; have V5 := hV.2.2.2.2.1; obtain ⟨v0, v1, v2, v3, v5, v6, v7⟩ := V1
  refine s_Md_isOver_0 ?_
  simp (disch := omega) only [ny_lit, nI_add, ny_mul, nI_clamp, ny_le, ny_lt, ny_eq, ny_div, ny_rem, ny_rem2, ny_inN, ha _, true_and]
  refine ⟨fun c => ?_, fun c => ?_⟩
  · rw [if_neg (by omega)] at h; exact h
  · rw [if_pos (by omega)] at h; exact h
theorem q_Md_isOne {x : Int32} (ha : ny_Md I a) (hV : ny_V a) (h1 : ∀ k, k < a 0 → x = nI k → Q (nI 1) I) (h0 : (∀ k, k < a 0 → ¬ x = nI k) → Q (nI 0) I) : ny_C1 d m_Md_isOne [.ref 102, .int x] Ln I Q := by
  have V1 := hV.1; have V2 := hV.2.1; have V3 := hV.2.2.1; have V4 := hV.2.2.2.1; have V5 := hV.2.2.2.2.1; obtain ⟨v0, v1, v2, v3, v5, v6, v7⟩ := V1
  refine s_Md_isOne_0 ?_
  refine ⟨fun c => h0 fun k hk e => ?_, fun c => ?_⟩
  · rw [e] at c; exact absurd c (nI_pos (by omega))
  · obtain ⟨j, hj, rfl⟩ := nI_of c
    simp (disch := omega) only [ny_lit, nI_add, ny_mul, nI_clamp, ny_le, ny_lt, ny_eq, ny_div, ny_rem, ny_rem2, ny_inN, ha _, true_and]
    refine ⟨fun c => h0 fun k hk e => ?_, fun c => h1 j (by omega) rfl⟩
    have := (ny_eq (by omega) (by omega)).mp e
    omega
theorem q_Md_isUp {k : Nat} (ha : ny_Md I a) (hV : ny_V a) (hk : k < 6) (h : Q (if ny_upb a k then nI 1 else nI 0) I) : ny_C1 (d + 1) m_Md_isUp [.ref 102, .int (nI k)] Ln I Q := by
  have V2 := hV.2.1 k hk
  refine s_Md_isUp_0 ?_
  simp only [ny_lit]
  refine q_Md_t4 ha hk ?_
  simp (disch := omega) only [ny_lit, nI_add, ny_mul, nI_clamp, ny_le, ny_lt, ny_eq, ny_div, ny_rem, ny_rem2, ny_inN]
  refine ⟨fun c => ?_, fun c => q_Md_t1 ha hk ?_⟩
  · simp_all [ny_upb]
  · simp (disch := omega) only [ny_lit, nI_add, ny_mul, nI_clamp, ny_le, ny_lt, ny_eq, ny_div, ny_rem, ny_rem2, ny_inN]
    refine ⟨fun c => ?_, fun c => ?_⟩
    · rw [if_neg] at h
      · exact h
      · simp [ny_upb]; omega
    · rw [if_pos] at h
      · exact h
      · simp [ny_upb]; omega
theorem q_Md_wearied {k : Nat} (ha : ny_Md I a) (hV : ny_V a) (hk : k < 6) (h : Q (nI (ny_wry a k)) I) : ny_C1 (d + 2) m_Md_wearied [.ref 102, .int (nI k)] Ln I Q := by
  have V2 := hV.2.1 k hk
  have hw := nz_W_le hV (a 1)
  have V1 := hV.1; have V2 := hV.2.1; have V3 := hV.2.2.1; have V4 := hV.2.2.2.1; have V5 := hV.2.2.2.2.1; obtain ⟨v0, v1, v2, v3, v5, v6, v7⟩ := V1
  refine s_Md_wearied_0 ?_
  simp (disch := omega) only [ny_lit, nI_add, ny_mul, nI_clamp, ny_le, ny_lt, ny_eq, ny_div, ny_rem, ny_rem2, ny_inN, true_and]
  refine q_Md_t0 ha hk ?_
  rw [ha 1]
  refine q_Md_weatherOf ha (by omega) ?_
  refine q_Md_wearies (by omega) (by omega) (by omega) ?_
  refine q_Md_t3 ha hk ?_
  have hr := ny_wear_le (kind := a (8 + 5 * k)) (bell := a 1) (w := nz_W a (a 1)) (by omega) hw
  have V6 := V4 (a (11 + 5 * k)) (by omega)
  simp (disch := omega) only [ny_lit, nI_add, ny_mul, nI_clamp, ny_le, ny_lt, ny_eq, ny_div, ny_rem, ny_rem2, ny_inN, ha _, true_and]
  refine q_Md_gr0 (by omega) (by omega) ?_
  exact h
theorem q_Md_shown {k : Nat} (ha : ny_Md I a) (hV : ny_V a) (hk : k < 6) (h : Q (nI (ny_shn a k)) I) : ny_C1 (d + 2) m_Md_shown [.ref 102, .int (nI k)] Ln I Q := by
  have V2 := hV.2.1 k hk
  have hw := nz_W_le hV (a 1)
  have V1 := hV.1; have V2 := hV.2.1; have V3 := hV.2.2.1; have V4 := hV.2.2.2.1; have V5 := hV.2.2.2.2.1; obtain ⟨v0, v1, v2, v3, v5, v6, v7⟩ := V1
  refine s_Md_shown_0 ?_
  refine q_Md_isUp ha hV hk ?_
  by_cases c : ny_upb a k
  · rw [if_pos c]
    refine ⟨fun q => absurd q (by decide), fun _ => ?_⟩
    simp (disch := omega) only [ny_lit, nI_add, ny_mul, nI_clamp, ny_le, ny_lt, ny_eq, ny_div, ny_rem, ny_rem2, ny_inN, true_and]
    refine q_Md_t0 ha hk ?_
    refine q_Md_t2 ha hk ?_
    rw [ha 1]
    refine q_Md_weatherOf ha (by omega) ?_
    refine q_Md_shows (by omega) (by omega) (by omega) (by omega) ?_
    rw [ny_shn, if_pos c] at h
    exact h
  · rw [if_neg c]
    refine ⟨fun _ => ?_, fun q => absurd rfl q⟩
    rw [ny_shn, if_neg c] at h
    exact h
theorem q_Md_pays {k : Nat} (ha : ny_Md I a) (hV : ny_V a) (hk : k < 6) (h : Q (nI (ny_pay a k)) I) : ny_C1 (d + 2) m_Md_pays [.ref 102, .int (nI k)] Ln I Q := by
  have V2 := hV.2.1 k hk
  refine s_Md_pays_0 ?_
  refine q_Md_isUp ha hV hk ?_
  by_cases c : ny_upb a k
  · rw [if_pos c]
    refine ⟨fun q => absurd q (by decide), fun _ => ?_⟩
    simp (disch := omega) only [ny_lit, nI_add, ny_mul, nI_clamp, ny_le, ny_lt, ny_eq, ny_div, ny_rem, ny_rem2, ny_inN, true_and]
    refine q_Md_t2 ha hk ?_
    refine q_Md_t1 ha hk ?_
    have := Nat.div_le_self (a (9 + 5 * k)) 8
    simp (disch := omega) only [ny_lit, nI_add, ny_mul, nI_clamp, ny_le, ny_lt, ny_eq, ny_div, ny_rem, ny_rem2, ny_inN, true_and]
    refine q_Md_gr0 (by omega) (by omega) ?_
    rw [ny_pay, if_pos c] at h
    exact h
  · rw [if_neg c]
    refine ⟨fun _ => ?_, fun q => absurd rfl q⟩
    rw [ny_pay, if_neg c] at h
    exact h
theorem q_Md_isUnder {own kind : Nat} (ho : own < 2 ^ 20) (hk : kind < 2 ^ 20) (h : Q (if ny_und own kind then nI 1 else nI 0) I) : ny_C1 d m_Md_isUnder [.int (nI own), .int (nI kind)] Ln I Q := by
  refine s_Md_isUnder_0 ?_
  simp (disch := omega) only [ny_lit, nI_add, ny_mul, nI_clamp, ny_le, ny_lt, ny_eq, ny_div, ny_rem, ny_rem2, ny_inN]
  simp only [ny_und, decide_eq_true_eq] at h
  refine ⟨fun c => ?_, fun c => ⟨fun c2 => ?_, fun c2 => ⟨fun c3 => ⟨fun c4 => ?_, fun c4 => ⟨fun c5 => ?_, fun c5 => ?_⟩⟩, fun c3 => ⟨fun c4 => ?_, fun c4 => ⟨fun c5 => ?_, fun c5 => ⟨fun c6 => ?_, fun c6 => ?_⟩⟩⟩⟩⟩⟩ <;>
  first
  | (rw [if_pos (by omega)] at h; exact h)
  | (rw [if_neg (by omega)] at h; exact h)
  | (exfalso; omega)
theorem q_Md_valueOf {v k : Nat} (ha : ny_Md I a) (hV : ny_V a) (hv : v ≤ 10004) (hk : k < 6) (h : Q (nI (ny_val a v k)) I) : ny_C1 (d + 1) m_Md_valueOf [.ref 102, .int (nI v), .int (nI k)] Ln I Q := by
  have hw := nz_W_le hV (a 1)
  have V1 := hV.1; have V2 := hV.2.1; have V3 := hV.2.2.1; have V4 := hV.2.2.2.1; have V5 := hV.2.2.2.2.1; obtain ⟨v0, v1, v2, v3, v5, v6, v7⟩ := V1
  refine s_Md_valueOf_0 ?_
  have key : ∀ n, n ≤ 4 → (nI v - (10000 : Int32) = nI n ↔ v = 10000 + n) := by
    intro n hn
    rw [ny_lit]
    constructor
    · intro e
      have e2 := congrArg Int32.toInt e
      rw [pk_sub_toInt (by omega) (by decide), nI_toInt (by omega)] at e2
      omega
    · intro e
      rw [e, pk_sub (by omega)]
      exact congrArg nI (by omega)
  have k0 : (nI v - (10000 : Int32) = (0 : Int32) ↔ v = 10000) := key 0 (by decide)
  have k1 : (nI v - (10000 : Int32) = (1 : Int32) ↔ v = 10001) := key 1 (by decide)
  have k2 : (nI v - (10000 : Int32) = (2 : Int32) ↔ v = 10002) := key 2 (by decide)
  have k3 : (nI v - (10000 : Int32) = (3 : Int32) ↔ v = 10003) := key 3 (by decide)
  have k4 : (nI v - (10000 : Int32) = (4 : Int32) ↔ v = 10004) := key 4 (by decide)
  simp only [k0, k1, k2, k3, k4]
  simp (disch := omega) only [ny_lit, nI_add, ny_mul, nI_clamp, ny_le, ny_lt, ny_eq, ny_div, ny_rem, ny_rem2, ny_inN, ha _, true_and]
  refine ⟨fun c => ?_, fun c => q_Md_t1 ha hk ?_, fun c => q_Md_t2 ha hk ?_, fun c => q_Md_weatherOf ha (by omega) ?_, fun c => ?_, fun c0 c1 c2 c3 c4 => ?_⟩
  · subst c; exact h
  · subst c; exact h
  · subst c; exact h
  · subst c; simp (disch := omega) only [ny_lit, nI_add, ny_mul, nI_clamp, ny_le, ny_lt, ny_eq, ny_div, ny_rem, ny_rem2, ny_inN]; exact h
  · subst c; exact h
  · rw [ny_val, if_neg c0, if_neg c1, if_neg c2, if_neg c3, if_neg c4] at h; exact h
end NZM
