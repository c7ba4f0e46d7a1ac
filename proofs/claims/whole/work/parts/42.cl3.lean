/-! the class: conditions of rules -/
theorem nz_or1 {q b : Nat} (hb : b < 2) : q * 2 ||| b = 2 * q + b := by
  have := Nat.two_pow_add_eq_or_of_lt (i := 1) (b := b) (by omega) q
  rw [Nat.mul_comm q 2]
  exact this.symm
theorem nz_and_m2 (x y : Nat) : (x &&& y) % 2 = (x % 2) * (y % 2) := by
  have h := Nat.and_mod_two_pow (a := x) (b := y) (n := 1)
  rw [show (2 : Nat) ^ 1 = 2 from rfl] at h
  rw [h]
  rcases Nat.mod_two_eq_zero_or_one x with e | e <;> rcases Nat.mod_two_eq_zero_or_one y with f | f <;> rw [e, f] <;> rfl
theorem nz_or_m2 (x y : Nat) : (x ||| y) % 2 = if x % 2 = 1 ∨ y % 2 = 1 then 1 else 0 := by
  have h := Nat.or_mod_two_pow (a := x) (b := y) (n := 1)
  rw [show (2 : Nat) ^ 1 = 2 from rfl] at h
  rw [h]
  rcases Nat.mod_two_eq_zero_or_one x with e | e <;> rcases Nat.mod_two_eq_zero_or_one y with f | f <;> rw [e, f] <;> rfl
theorem nz_cand (t : Nat) : t / 4 * 2 ||| (t &&& t / 2) % 2 = if t % 2 = 1 then t / 2 else t / 2 - t / 2 % 2 := by
  rw [nz_or1 (Nat.mod_lt _ (by decide)), nz_and_m2]
  rcases Nat.mod_two_eq_zero_or_one t with e | e
  · rw [e, Nat.zero_mul, if_neg (by decide)]; omega
  · rw [e, Nat.one_mul, if_pos rfl]; omega
theorem nz_cor (t : Nat) : t / 4 * 2 ||| (t ||| t / 2) % 2 = t / 2 ||| t % 2 := by
  rw [nz_or1 (Nat.mod_lt _ (by decide)), nz_or_m2]
  have e : t / 2 = t / 4 * 2 ||| t / 2 % 2 := by rw [nz_or1 (Nat.mod_lt _ (by decide))]; omega
  rcases Nat.mod_two_eq_zero_or_one t with e1 | e1 <;> rcases Nat.mod_two_eq_zero_or_one (t / 2) with e2 | e2
  · rw [e1, e2, if_neg (by decide), Nat.or_zero]; omega
  · rw [e1, e2, if_pos (by decide), Nat.or_zero]; omega
  · rw [e1, e2, if_pos (by decide)]
    rw [show t / 2 = t / 4 * 2 by omega, nz_or1 (by decide)]
  · rw [e1, e2, if_pos (by decide)]
    rw [show t / 2 = t / 4 * 2 + 1 by omega]
    have h3 := nz_or1 (q := t / 4) (b := 1) (by decide)
    rw [Nat.mul_comm (t / 4) 2] at h3 ⊢
    rw [← h3, Nat.or_assoc]
    rfl
theorem nz_cshl {t x : Nat} (hx : x < 2) : t * 2 ||| x = 2 * t + x := nz_or1 hx
/-- the facts that the rules ask for are those of figure k -/
def nz_ft (I : ny_I) (a : ny_a) (k : Nat) : Prop := I 22 0 = nI (a 1) ∧ I 22 1 = nI (a (9 + 5 * k)) ∧ I 22 2 = nI (a (10 + 5 * k)) ∧ I 22 3 = nI (nz_W a (a 1) % 4) ∧ I 22 4 = nI k
theorem nz_vrv {I : ny_I} {a : ny_a} {x : Int32} {v k : Nat} (h : ny_vr I x v) (hf : nz_ft I a k) (hv : v ≤ 10004) : ∃ j, j < 205 ∧ x = nI j ∧ I 22 j = nI (ny_val a v k) := by
  obtain ⟨f0, f1, f2, f3, f4⟩ := hf
  rcases h with ⟨h1, h2⟩ | ⟨h1, j, h2, h3, h4, h5⟩
  · have hc : v = 10000 ∨ v = 10001 ∨ v = 10002 ∨ v = 10003 ∨ v = 10004 := by omega
    rcases hc with rfl | rfl | rfl | rfl | rfl
    · exact ⟨0, by decide, h2, f0⟩
    · exact ⟨1, by decide, h2, f1⟩
    · exact ⟨2, by decide, h2, f2⟩
    · exact ⟨3, by decide, h2, f3⟩
    · exact ⟨4, by decide, h2, f4⟩
  · refine ⟨j, h3, h4, ?_⟩
    rw [h5]
    unfold ny_val
    rw [if_neg (by omega), if_neg (by omega), if_neg (by omega), if_neg (by omega), if_neg (by omega)]
theorem nz_apart {x y : Nat} (hx : x < 2 ^ 30) (hy : y < 2 ^ 30) : (nI x - nI y < nI 0 ↔ x < y) ∧ (nI x - nI y = nI 0 ↔ x = y) ∧ (nI x - nI y ≤ nI 0 ↔ x ≤ y) ∧ (nI 0 ≤ nI x - nI y ↔ y ≤ x) := by
  have h := pk_sub_toInt hx hy
  have h0 : (nI 0).toInt = 0 := by decide
  rw [Int32.lt_iff_toInt_lt, Int32.le_iff_toInt_le, Int32.le_iff_toInt_le, ← Int32.toInt_inj, h, h0]
  omega
theorem nz_lcmp0 {t : Nat} (h : t < 2 ^ 62) : lN t = (0 : Int64) ↔ t = 0 := pk_lEQ (by omega) (by decide)
theorem nz_lshr2 {t : Nat} (h : t < 2 ^ 62) : ((lN t).toUInt64 >>> ((nI 2).toInt64.toUInt64 &&& Int64.toUInt64 63)).toInt64 = lN (t / 4) := wb_shr (k := 2) (by omega) (by decide)
theorem nz_lshr1 {t : Nat} (h : t < 2 ^ 62) : ((lN t).toUInt64 >>> ((nI 1).toInt64.toUInt64 &&& Int64.toUInt64 63)).toInt64 = lN (t / 2) := wb_shr (k := 1) (by omega) (by decide)
theorem nz_lshl1 {t : Nat} : lN t <<< ((nI 1).toInt64 &&& 63) = lN (t * 2) := wb_shl t (k := 1) (by decide)
theorem nz_land2 {t u : Nat} (h : t < 2 ^ 62) (h2 : u < 2 ^ 62) : lN t &&& lN u = lN (t &&& u) := wb_and (by omega) (by omega)
theorem nz_and_lt {t u : Nat} (h : t < 2 ^ 62) : t &&& u < 2 ^ 62 := Nat.lt_of_le_of_lt Nat.and_le_left h
theorem nz_lshr2' {t : Nat} (h : t < 2 ^ 62) : ((lN t).toUInt64 >>> ((lN 2).toUInt64 &&& Int64.toUInt64 63)).toInt64 = lN (t / 4) := by
  have := nz_lshr2 h
  rw [nI_l (by decide)] at this
  exact this
theorem nz_lshr1' {t : Nat} (h : t < 2 ^ 62) : ((lN t).toUInt64 >>> ((lN 1).toUInt64 &&& Int64.toUInt64 63)).toInt64 = lN (t / 2) := by
  have := nz_lshr1 h
  rw [nI_l (by decide)] at this
  exact this
theorem nz_lshl1' {t : Nat} : lN t <<< (lN 1 &&& 63) = lN (t * 2) := by
  have := nz_lshl1 (t := t)
  rw [nI_l (by decide)] at this
  exact this
section NZR
variable {d Ln : Nat} {I : ny_I} {Q : Int32 → ny_I → Prop} {a : ny_a}
theorem q_Ru_holdsL {k r : Nat} (hB : ny_Ba I a) (hV : ny_V a) (hf : nz_ft I a k) (hk : k < 6) (hr : r < a 5) :
    ∀ (n j t : Nat), a (68 + 4 * r) + j + n = a (69 + 4 * r) → t < 2 ^ (ny_dp a (a (68 + 4 * r)) j + 1) → Q (if ny_hld a k (a (68 + 4 * r) + j) n t % 2 = 1 then nI 1 else nI 0) I →
      ny_g d m_Ru_holds 5 [(0, .ref 15), (2, .int (nI (a (69 + 4 * r)))), (3, .long (lN t)), (5, .int (nI (a (68 + 4 * r) + j)))] [] Ln I (ny_r1 Ln Q) := by
  have V1 := hV.1; have V2 := hV.2.1; have V3 := hV.2.2.1; have V4 := hV.2.2.2.1; have V5 := hV.2.2.2.2.1; obtain ⟨v0, v1, v2, v3, v5, v6, v7⟩ := V1
  obtain ⟨r1, r2, r3, r4, r5, r6⟩ := hV.2.2.2.2.2.1 r hr
  have V8 := hV.2.2.2.2.2.2.2
  have B9 := hB.2.2.2.2.2.2.1
  intro n
  induction n with
  | zero =>
    intro j t hj ht h
    have h40 := r6 j (by omega)
    have ht2 : t < 2 ^ 62 := Nat.lt_of_lt_of_le ht (Nat.pow_le_pow_right (by decide) (by omega))
    have hm : t % 2 < 2 := Nat.mod_lt _ (by decide)
    refine s_Ru_holds_5 ?_
    simp (disch := omega) only [ny_lit, nI_add, ny_mul, nI_clamp, ny_le, ny_lt, ny_eq, ny_div, ny_rem, ny_rem2, ny_inN, nz_cmpn, nz_land, nz_lcmp0]
    refine ⟨fun c => ?_, fun c => by omega⟩
    rw [ny_hld] at h
    refine ⟨fun q => ?_, fun q => ?_⟩
    · rw [if_neg (by omega)] at h; exact h
    · rw [if_pos (by omega)] at h; exact h
  | succ n ih =>
    intro j t hj ht h
    have h40 := r6 j (by omega)
    have ht2 : t < 2 ^ 61 := Nat.lt_of_lt_of_le ht (Nat.pow_le_pow_right (by decide) (by omega))
    have hs := nz_stv_lt a k (a (68 + 4 * r)) j t ht
    obtain ⟨w1, w2, w3⟩ := V8 (a (68 + 4 * r) + j) (by omega)
    obtain ⟨g1, g2⟩ := B9 (a (68 + 4 * r) + j) (by omega)
    rw [ny_hld, Nat.add_assoc] at h
    have e4 : a (68 + 4 * r) + j + 1 = a (68 + 4 * r) + (j + 1) := by omega
    have goal : ∀ t', ny_stv a k (a (68 + 4 * r) + j) t = t' → ny_g d m_Ru_holds 5 [(0, .ref 15), (2, .int (nI (a (69 + 4 * r)))), (3, .long (lN t')), (5, .int (nI (a (68 + 4 * r) + (j + 1))))] [] Ln I (ny_r1 Ln Q) := by
      intro t' e
      rw [e] at h hs
      exact ih (j + 1) t' (by omega) hs h
    have hlt := Nat.div_le_self t 2
    have hand := nz_and_lt (t := t) (u := t / 2) (by omega)
    have hor : t ||| t / 2 < 2 ^ 62 := nz_or_lt (by omega) (by omega)
    refine s_Ru_holds_5 ?_
    simp (disch := omega) only [ny_lit, nI_add, ny_mul, nI_clamp, ny_le, ny_lt, ny_eq, ny_div, ny_rem, ny_rem2, ny_inN, nz_cmpn, nz_lxor, nz_lshr2', nz_lshr1', nz_lshl1', nz_land2, nz_lor, nz_land, nI_l, nz_cand, nz_cor, nz_cshl, g1, true_and, e4]
    clear V2 V3 V4 V5 r5 r6 V8 B9 ih h hs
    refine ⟨fun c => absurd c (by omega), fun _ => ⟨fun c1 => goal _ ?_, fun c1 => goal _ ?_, fun c1 => goal _ ?_, fun c1 c2 c3 => ?_⟩⟩
    · grind [ny_stv]
    · rw [ny_stv, if_neg (by omega), if_neg (by omega), if_pos c1]
      exact (nz_cand t).symm.trans (nz_or1 (Nat.mod_lt _ (by decide)))
    · rw [ny_stv, if_neg (by omega), if_neg (by omega), if_neg (by omega)]
      exact (nz_cor t).symm.trans (nz_or1 (Nat.mod_lt _ (by decide)))
    · obtain ⟨g3, g4⟩ := g2 (by omega)
      obtain ⟨jx, hjx, ex, vx⟩ := nz_vrv g3 hf w2
      obtain ⟨jy, hjy, ey, vy⟩ := nz_vrv g4 hf w3
      have hx := nz_val_le hV w2 hk
      have hy := nz_val_le hV w3 hk
      rw [ex, ey]
      simp (disch := omega) only [ny_lit, nI_add, ny_mul, nI_clamp, ny_le, ny_lt, ny_eq, ny_div, ny_rem, ny_rem2, ny_inN, true_and]
      rw [vx, vy]
      obtain ⟨a1, a2, a3, a4⟩ := nz_apart (x := ny_val a (a (123 + 3 * (a (68 + 4 * r) + j))) k) (y := ny_val a (a (124 + 3 * (a (68 + 4 * r) + j))) k) (by omega) (by omega)
      rw [a2, a3, a4]
      refine ⟨fun c4 => ⟨fun c5 => ⟨fun c6 => goal _ ?_, fun c6 => goal _ ?_⟩, fun c5 => ⟨fun c6 => goal _ ?_, fun c6 => goal _ ?_⟩⟩, fun c4 => ⟨fun c6 => goal _ ?_, fun c6 => goal _ ?_⟩⟩ <;> grind [ny_stv, ny_cmp]
theorem q_Ru_holds {k r : Nat} (hB : ny_Ba I a) (hV : ny_V a) (hf : nz_ft I a k) (hk : k < 6) (hr : r < a 5) (h : Q (if ny_hol a r k then nI 1 else nI 0) I) : ny_C1 d m_Ru_holds [.ref 15, .int (nI (a (68 + 4 * r))), .int (nI (a (69 + 4 * r)))] Ln I Q := by
  obtain ⟨r1, r2, r3, r4, r5, r6⟩ := hV.2.2.2.2.2.1 r hr
  refine s_Ru_holds_0 ?_
  refine q_Ru_holdsL hB hV hf hk hr (a (69 + 4 * r) - a (68 + 4 * r)) 0 1 (by omega) (by show 1 < 2 ^ (1 + 1); decide) ?_
  simp only [ny_hol, decide_eq_true_eq] at h
  exact h
theorem q_Ru_tellsL {k : Nat} (hB : ny_Ba I a) (hV : ny_V a) (hf : nz_ft I a k) (hk : k < a 0) : ∀ n r, r + n = a 5 → Q (nI (ny_wlf a k r n)) I →
    ny_g (d + 1) m_Ru_tells 4 [(0, .ref 15), (1, .int (nI (a (8 + 5 * k)))), (2, .int (nI (if r = 0 then 0 else a (65 + 4 * r)))), (3, .int (nI r))] [] Ln I (ny_r1 Ln Q) := by
  have V1 := hV.1; have V2 := hV.2.1; have V3 := hV.2.2.1; have V4 := hV.2.2.2.1; have V5 := hV.2.2.2.2.1; obtain ⟨v0, v1, v2, v3, v5, v6, v7⟩ := V1
  have U := V2 k (by omega)
  have B8 := hB.2.2.2.2.2.1
  intro n
  induction n with
  | zero =>
    intro r hr h
    refine s_Ru_tells_4 ?_
    rw [hB.2.2.2.2.1.1]
    simp (disch := omega) only [ny_lit, nI_add, ny_mul, nI_clamp, ny_le, ny_lt, ny_eq, ny_div, ny_rem, ny_rem2, ny_inN]
    exact ⟨fun _ => h, fun c => absurd c (by omega)⟩
  | succ n ih =>
    intro r hr h
    obtain ⟨r1, r2, r3, r4, r5, r6⟩ := hV.2.2.2.2.2.1 r (by omega)
    obtain ⟨b1, b2, b3⟩ := B8 r (by omega)
    rw [ny_wlf] at h
    have next : Q (nI (ny_wlf a k (r + 1) n)) I → ny_g (d + 1) m_Ru_tells 4 [(0, .ref 15), (1, .int (nI (a (8 + 5 * k)))), (2, .int (nI (a (69 + 4 * r)))), (3, .int (nI (r + 1)))] [] Ln I (ny_r1 Ln Q) := by
      intro q
      have := ih (r + 1) (by omega) q
      rw [if_neg (by omega), show 65 + 4 * (r + 1) = 69 + 4 * r by omega] at this
      exact this
    refine s_Ru_tells_4 ?_
    rw [hB.2.2.2.2.1.1]
    simp (disch := omega) only [ny_lit, nI_add, ny_mul, nI_clamp, ny_le, ny_lt, ny_eq, ny_div, ny_rem, ny_rem2, ny_inN, true_and]
    rw [b1]
    refine ⟨fun c => absurd c (by omega), fun _ => q_Ki_isUnder hB.2.2.2.2.2.2.2 (by omega) (by omega) (V3 k hk) ?_⟩
    rw [b3]
    by_cases c : ny_und (a (8 + 5 * k)) (a (66 + 4 * r)) = true
    · rw [if_pos c]
      refine ⟨fun q => absurd q (by decide), fun _ => ?_⟩
      rw [← r5]
      refine q_Ru_holds hB hV hf (by omega) (by omega) ?_
      rw [b2, b3]
      by_cases c2 : ny_hol a r k = true
      · rw [if_pos c2]
        rw [c, c2, Bool.and_true, if_pos rfl] at h
        exact ⟨fun q => absurd q (by decide), fun _ => h⟩
      · rw [if_neg c2]
        rw [c, Bool.true_and, if_neg c2] at h
        exact ⟨fun _ => next h, fun q => absurd rfl q⟩
    · rw [if_neg c]
      rw [if_neg (by simp [c])] at h
      exact ⟨fun _ => next h, fun q => absurd rfl q⟩
theorem q_Ru_tells {k : Nat} (hB : ny_Ba I a) (hV : ny_V a) (hf : nz_ft I a k) (hk : k < a 0) (h : Q (nI (ny_wil a k)) I) : ny_C1 (d + 1) m_Ru_tells [.ref 15, .int (nI (a (8 + 5 * k)))] Ln I Q :=
  s_Ru_tells_0 (q_Ru_tellsL hB hV hf hk (a 5) 0 (by omega) h)
end NZR
