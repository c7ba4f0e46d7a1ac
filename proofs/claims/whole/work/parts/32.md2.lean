/-! the model: conditions, wills, a bell -/
theorem nz_and2 {m : Nat} (h : m < 2 ^ 62) : lN m &&& (-2) = lN (m - m % 2) := by
  rw [show (-2 : Int64) = lN (2 ^ 64 - 2) by decide +kernel, wb_and (by omega) (by decide)]
  congr 1
  rw [show m - m % 2 = 2 * (m / 2) by omega, show (2 ^ 64 - 2 : Nat) = 2 * (2 ^ 63 - 1) by decide]
  apply Nat.eq_of_testBit_eq
  intro i
  cases i with
  | zero => simp [Nat.testBit_zero]
  | succ i =>
    rw [Nat.testBit_and, Nat.testBit_succ, Nat.testBit_succ, Nat.testBit_succ]
    rw [Nat.mul_div_cancel_left _ (by decide), Nat.mul_div_cancel_left _ (by decide), Nat.testBit_two_pow_sub_one]
    by_cases hi : i < 63
    · simp [hi]
    · have : (m / 2).testBit i = false := by
        apply Nat.testBit_lt_two_pow
        have : 2 ^ 63 ≤ 2 ^ i := Nat.pow_le_pow_right (by decide) (by omega)
        omega
      simp [this]
theorem nz_cmp0 {x y : Int64} : lg_cmp x y = 0 ↔ x = y := by
  unfold lg_cmp
  by_cases h1 : x > y
  · rw [if_pos h1]
    constructor
    · intro h; exact absurd h (by decide)
    · intro h; subst h; exact absurd h1 (Int64.lt_irrefl)
  · rw [if_neg h1]
    by_cases h2 : x = y
    · rw [if_pos h2]; exact ⟨fun _ => h2, fun _ => rfl⟩
    · rw [if_neg h2]; exact ⟨fun h => absurd h (by decide), fun h => absurd h h2⟩
theorem nz_cmpn {x y : Int64} : lg_cmp x y = nI 0 ↔ x = y := nz_cmp0
theorem nz_lrem {t : Nat} (h : t < 2 ^ 62) : lN t - lN t / 2 * 2 = lN (t % 2) := by
  rw [show (2 : Int64) = lN 2 from rfl]
  exact pk_lRem (by omega) (by decide) (by decide)
theorem nz_ldiv {t : Nat} (h : t < 2 ^ 62) : lN t / 2 = lN (t / 2) := by
  rw [show (2 : Int64) = lN 2 from rfl]
  exact pk_lDiv (by omega) (by decide) (by decide)
theorem nz_lxor (t : Nat) : lN t ^^^ 1 = lN (t ^^^ 1) := lN_xor t 1
theorem nz_land {t : Nat} (h : t < 2 ^ 62) : lN t &&& 1 = lN (t % 2) := wb_a1 (by omega)
theorem nz_lor {t u : Nat} (h : t < 2 ^ 62) (h2 : u < 2 ^ 62) : lN t ||| lN u = lN (t ||| u) := wb_or (by omega) (by omega)
theorem nz_l2 (t : Nat) : (2 : Int64) * lN t = lN (2 * t) := lN_mul 2 t
theorem nz_l0 (t : Nat) : lN t + (0 : Int64) = lN t := lN_add t 0
theorem nz_l1 (t : Nat) : lN t + (1 : Int64) = lN (t + 1) := lN_add t 1
theorem nz_leq1 {t : Nat} (h : t < 2 ^ 62) : lN t = (1 : Int64) ↔ t = 1 := pk_lEQ (by omega) (by decide)
theorem nz_or_lt {x y n : Nat} (hx : x < 2 ^ n) (hy : y < 2 ^ n) : x ||| y < 2 ^ n := Nat.or_lt_two_pow hx hy
theorem nz_xor1 {x n : Nat} (hx : x < 2 ^ (n + 1)) : x ^^^ 1 < 2 ^ (n + 1) := Nat.xor_lt_two_pow hx (Nat.one_lt_two_pow (by omega))
/-- the bits stay few -/
theorem nz_stv_lt (a : ny_a) (k b j t : Nat) (h : t < 2 ^ (ny_dp a b j + 1)) : ny_stv a k (b + j) t < 2 ^ (ny_dp a b (j + 1) + 1) := by
  unfold ny_stv
  rw [ny_dp]
  by_cases h1 : a (122 + 3 * (b + j)) < 3
  · rw [if_pos h1, if_pos h1, Nat.pow_succ]
    split <;> omega
  · rw [if_neg h1, if_neg h1]
    by_cases h2 : a (122 + 3 * (b + j)) = 3
    · rw [if_pos h2, if_pos h2]
      exact nz_xor1 h
    · rw [if_neg h2, if_neg h2]
      have hh : t / 2 < 2 ^ (ny_dp a b j - 1 + 1) := by
        cases hd : ny_dp a b j with
        | zero => rw [hd] at h; have : t < 2 := h; show t / 2 < 2; omega
        | succ m =>
          rw [hd, Nat.pow_succ] at h
          show t / 2 < 2 ^ (m + 1)
          omega
      split
      · split
        · exact hh
        · exact Nat.lt_of_le_of_lt (Nat.sub_le _ _) hh
      · refine nz_or_lt hh ?_
        have : t % 2 < 2 := Nat.mod_lt _ (by decide)
        have h2 : 2 ^ 1 ≤ 2 ^ (ny_dp a b j - 1 + 1) := Nat.pow_le_pow_right (by decide) (by omega)
        omega
theorem nz_val_le {a : ny_a} {v k : Nat} (hV : ny_V a) (hv : v ≤ 10004) (hk : k < 6) : ny_val a v k ≤ 10004 := by
  have hw := nz_W_le hV (a 1)
  have V2 := hV.2.1 k hk
  obtain ⟨v0, v1, v2, v3, v5, v6, v7⟩ := hV.1
  unfold ny_val
  split
  · omega
  split
  · omega
  split
  · omega
  split
  · omega
  split <;> omega
section NZH
variable {d Ln : Nat} {I : ny_I} {Q : Int32 → ny_I → Prop} {a : ny_a}
theorem q_Md_holdsL {k r : Nat} (ha : ny_Md I a) (hV : ny_V a) (hk : k < 6) (hr : r < a 5) :
    ∀ (n j t : Nat), a (68 + 4 * r) + j + n = a (69 + 4 * r) → t < 2 ^ (ny_dp a (a (68 + 4 * r)) j + 1) → Q (if ny_hld a k (a (68 + 4 * r) + j) n t % 2 = 1 then nI 1 else nI 0) I →
      ny_g (d + 2) m_Md_holds 17 [(0, .ref 102), (1, .int (nI r)), (2, .int (nI k)), (3, .long (lN t)), (5, .int (nI (a (68 + 4 * r) + j)))] [] Ln I (ny_r1 Ln Q) := by
  have V1 := hV.1; have V2 := hV.2.1; have V3 := hV.2.2.1; have V4 := hV.2.2.2.1; have V5 := hV.2.2.2.2.1; obtain ⟨v0, v1, v2, v3, v5, v6, v7⟩ := V1
  obtain ⟨r1, r2, r3, r4, r5, r6⟩ := hV.2.2.2.2.2.1 r hr
  have V8 := hV.2.2.2.2.2.2.2
  intro n
  induction n with
  | zero =>
    intro j t hj ht h
    have h40 := r6 j (by omega)
    have ht2 : t < 2 ^ 62 := Nat.lt_of_lt_of_le ht (Nat.pow_le_pow_right (by decide) (by omega))
    have e3 : 66 + 4 * r + 3 = 69 + 4 * r := by omega
    refine s_Md_holds_17 ?_
    simp (disch := omega) only [ny_lit, nI_add, ny_mul, nI_clamp, ny_le, ny_lt, ny_eq, ny_div, ny_rem, ny_rem2, ny_inN, ha _, true_and, e3, nz_cmpn]
    refine ⟨fun c => ?_, fun c => ?_⟩
    · rw [nz_lrem ht2]
      rw [ny_hld] at h
      refine ny_brn (P := t % 2 = 1) (nz_leq1 (by omega)) (fun q => ?_) (fun q => ?_)
      · rw [if_pos q] at h; exact h
      · rw [if_neg q] at h; exact h
    · omega
  | succ n ih =>
    intro j t hj ht h
    have h40 := r6 j (by omega)
    have ht2 : t < 2 ^ 61 := Nat.lt_of_lt_of_le ht (Nat.pow_le_pow_right (by decide) (by omega))
    have hs := nz_stv_lt a k (a (68 + 4 * r)) j t ht
    obtain ⟨w1, w2, w3⟩ := V8 (a (68 + 4 * r) + j) (by omega)
    rw [ny_hld, Nat.add_assoc] at h
    have e1 : 122 + 3 * (a (68 + 4 * r) + j) + 1 = 123 + 3 * (a (68 + 4 * r) + j) := by omega
    have e2 : 122 + 3 * (a (68 + 4 * r) + j) + 2 = 124 + 3 * (a (68 + 4 * r) + j) := by omega
    have e3 : 66 + 4 * r + 3 = 69 + 4 * r := by omega
    have e4 : a (68 + 4 * r) + j + 1 = a (68 + 4 * r) + (j + 1) := by omega
    have goal : ∀ t', ny_stv a k (a (68 + 4 * r) + j) t = t' → ny_g (d + 2) m_Md_holds 17 [(0, .ref 102), (1, .int (nI r)), (2, .int (nI k)), (3, .long (lN t')), (5, .int (nI (a (68 + 4 * r) + (j + 1))))] [] Ln I (ny_r1 Ln Q) := by
      intro t' e
      rw [e] at h hs
      exact ih (j + 1) t' (by omega) hs h
    refine s_Md_holds_17 ?_
    simp (disch := omega) only [ny_lit, nI_add, ny_mul, nI_clamp, ny_le, ny_lt, ny_eq, ny_div, ny_rem, ny_rem2, ny_inN, ha _, true_and, e1, e2, e3, e4, nz_cmpn, nz_ldiv, nz_and2, nz_lxor, nz_land, nz_lor, nz_l2, nz_l0, nz_l1, nz_leq1]
    have hv1 := w2
    have hv2 := w3
    clear V2 V3 V4 V5 r5 r6 V8 ih h hs
    refine ⟨fun c => absurd c (by omega), fun _ => ⟨fun c1 => ⟨fun c2 => ⟨fun c3 => ⟨fun c4 => goal _ ?_, fun c4 => goal _ ?_⟩, fun c3 => goal _ ?_⟩, fun c2 => goal _ ?_⟩, fun c1 => q_Md_valueOf ha hV hv1 hk ?_⟩⟩
    · grind [ny_stv]
    · grind [ny_stv]
    · grind [ny_stv]
    · grind [ny_stv]
    · rw [ha _]
      refine q_Md_valueOf ha hV hv2 hk ?_
      have hx := nz_val_le hV hv1 hk
      have hy := nz_val_le hV hv2 hk
      simp (disch := omega) only [ny_lit, nI_add, ny_mul, nI_clamp, ny_le, ny_lt, ny_eq, ny_div, ny_rem, ny_rem2, ny_inN]
      refine ⟨fun c2 => ⟨fun c3 => ⟨fun c4 => goal _ ?_, fun c4 => goal _ ?_⟩, fun c3 => ⟨fun c4 => goal _ ?_, fun c4 => goal _ ?_⟩⟩, fun c2 => ⟨fun c4 => goal _ ?_, fun c4 => goal _ ?_⟩⟩ <;> grind [ny_stv, ny_cmp]
end NZH
