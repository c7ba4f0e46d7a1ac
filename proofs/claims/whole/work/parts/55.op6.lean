/-! the class: a report -/
theorem nz_in_i {l n m : Nat} {x : Int32} (hl : l < 2 ^ 31) (hn : n < 2 ^ 31) (h : nz_in l n x = some m) : x = nI m ∧ l ≤ m ∧ m ≤ n := by
  unfold nz_in at h
  by_cases q : nI l ≤ x ∧ x ≤ nI n
  · rw [if_pos q] at h
    obtain ⟨k, k1, k2, e⟩ := (nz_i32 hl hn).mp q
    rw [e, nI_clamp (by omega)] at h
    injection h with h
    subst h
    exact ⟨e, k1, k2⟩
  · rw [if_neg q] at h
    cases h
theorem nz_rep_v {a : ny_a} {b q l m j : Nat} : nz_rep a b q l m j = if j = 6 then a 6 + 1 else if j = 101 + 4 * a 6 then m else if j = 100 + 4 * a 6 then l else if j = 99 + 4 * a 6 then q else if j = 98 + 4 * a 6 then b else a j := rfl
theorem nz_rep_V {a : ny_a} {b q l m : Nat} (hV : ny_V a) (h6 : a 6 < 6) (hb : b ≤ 15) (hq : q ≤ 1) (hl : l ≤ 999) (hm : m ≤ 999) : ny_V (nz_rep a b q l m) := by
  have eh : ∀ j, j < 98 ∨ 122 ≤ j → j ≠ 6 → nz_rep a b q l m j = a j := by
    intro j hj h6'
    rw [nz_rep_v, if_neg (by omega), if_neg (by omega), if_neg (by omega), if_neg (by omega), if_neg (by omega)]
  have e6 : nz_rep a b q l m 6 = a 6 + 1 := rfl
  obtain ⟨⟨v0, v1, v2, v3, v5, v6, v7⟩, V2, V3, V4, V5, V6, V7, V8⟩ := hV
  refine ⟨?_, fun k hk => ?_, fun k hk => ?_, fun f hf => ?_, fun b hb => ?_, fun r hr => ?_, fun r hr => ?_, fun i hi => ?_⟩
  · rw [eh 0 (by omega) (by omega), eh 1 (by omega) (by omega), eh 2 (by omega) (by omega), eh 5 (by omega) (by omega), e6, eh 7 (by omega) (by omega)]
    exact ⟨v0, v1, v2, v3, v5, h6, v7⟩
  · rw [eh _ (by omega) (by omega), eh _ (by omega) (by omega), eh _ (by omega) (by omega), eh _ (by omega) (by omega), eh _ (by omega) (by omega)]
    exact V2 k hk
  · rw [eh 0 (by omega) (by omega)] at hk
    rw [eh _ (by omega) (by omega)]
    exact V3 k hk
  · rw [eh _ (by omega) (by omega), eh _ (by omega) (by omega)]; exact V4 f hf
  · rw [eh _ (by omega) (by omega)]; exact V5 b hb
  · rw [eh 5 (by omega) (by omega)] at hr
    have e65 : (if r = 0 then 0 else nz_rep a b q l m (65 + 4 * r)) = (if r = 0 then 0 else a (65 + 4 * r)) := by
      split
      · rfl
      · rw [eh _ (by omega) (by omega)]
    rw [e65, eh _ (by omega) (by omega), eh _ (by omega) (by omega), eh _ (by omega) (by omega), eh _ (by omega) (by omega), eh 7 (by omega) (by omega)]
    obtain ⟨w1, w2, w3, w4, w5, w6⟩ := V6 r hr
    refine ⟨w1, w2, w3, w4, w5, fun j hj => ?_⟩
    rw [nz_dp_c (a := a) (fun j hj => eh j (by omega) (by omega))]
    exact w6 j hj
  · rw [e6] at hr
    by_cases c : r = a 6
    · subst c
      simp (disch := omega) only [nz_rep_v, if_neg, if_true]
      omega
    · simp (disch := omega) only [nz_rep_v, if_neg]
      exact V7 r (by omega)
  · rw [eh 7 (by omega) (by omega)] at hi
    rw [eh _ (by omega) (by omega), eh _ (by omega) (by omega), eh _ (by omega) (by omega)]; exact V8 i hi
section NZRP
variable {d Ln : Nat} {I : ny_I} {Q : Int32 → ny_I → Prop} {Q0 : ny_I → Prop} {a : ny_a}
theorem q_No_report {x y z w : Int32} (hC : ny_Cl I a) (hV : ny_V a) (h : ∀ I', nz_cf I' I (o_report x y z w a).2 → Q (o_report x y z w a).1 I') : ny_C1 (d + 1) m_No_report [.ref 5, .int x, .int y, .int z, .int w] Ln I Q := by
  have V1 := hV.1; have V2 := hV.2.1; have V3 := hV.2.2.1; have V4 := hV.2.2.2.1; have V5 := hV.2.2.2.2.1; obtain ⟨v0, v1, v2, v3, v5, v6, v7⟩ := V1
  have no : (o_report x y z w a) = o_no a → Q (-1 : Int32) I := by
    intro e
    rw [e] at h
    rw [ny_m1]; exact h I (nz_cf_r hC)
  refine s_No_report_0 (q_No_I 0 15 rfl rfl (by decide) (by decide) (fun b eb _ hb ex => ⟨fun q => absurd q (by decide), fun _ => q_No_I 0 1 rfl rfl (by decide) (by decide) (fun q eq _ hq ey => ⟨fun _ => ?_, fun q => absurd q (by decide)⟩) (fun eq => ⟨fun q => absurd rfl q, fun _ => no (by simp only [o_report, eb, eq])⟩)⟩) (fun eb => ⟨fun _ => no (by simp only [o_report, eb]), fun q => absurd rfl q⟩))
  have main : ∀ top, top ≤ 999 → top = (if y = nI 0 then 99 else 999) → ¬ z < 0 → ¬ w < z → ny_g (d + 1) m_No_report 45 [(0, .ref 5), (1, .int x), (2, .int y), (3, .int z), (4, .int w)] [.int (nI top), .int w] Ln I (ny_r1 Ln Q) := by
    intro top ht et cz cw
    obtain ⟨l, hl, rfl⟩ := nI_of cz
    refine s_No_report_45 ⟨fun c => ?_, fun c => no ?_⟩
    · obtain ⟨m, hm1, hm2, rfl⟩ := (nz_i32 hl (by omega)).mp ⟨Int32.not_lt.mp cw, c⟩
      have el : nz_in 0 top (nI l) = some l := nz_in_s (by decide) (by omega) (by omega) (by omega) rfl
      have em : nz_in l top (nI m) = some m := nz_in_s (by omega) (by omega) hm1 hm2 rfl
      simp only [o_report, eb, eq, ← et, el, em] at h
      refine s_Re_add_0 ?_
      have hC2 := hC
      obtain ⟨⟨⟨h1, h2⟩, h3, h4, h5, ⟨h6, h7⟩, h8, h9, h10⟩, ⟨m1, m2, mm, m3, m4, m5⟩, ⟨s1, s2⟩, r1, r2⟩ := hC
      subst ex ey
      simp (disch := omega) only [ny_uprd, if_neg, r1]
      simp (disch := omega) only [ny_lit, nI_add, ny_mul, nI_clamp, ny_le, ny_lt, ny_eq, ny_div, ny_rem, ny_rem2, ny_inN, true_and]
      refine ⟨fun c6 => ?_, fun c6 => ?_⟩
      · rw [if_neg (by omega)] at h
        simp only [if_true, and_self]
        rw [pk_sub (by omega)]
        simp (disch := omega) only [ny_inN, true_and, Nat.add_sub_cancel]
        have ev : ∀ j, nz_rep a b q l m j = if j = 6 then a 6 + 1 else if j = 101 + 4 * a 6 then m else if j = 100 + 4 * a 6 then l else if j = 99 + 4 * a 6 then q else if j = 98 + 4 * a 6 then b else a j := fun j => rfl
        refine h _ ⟨⟨⟨⟨?_, ?_⟩, fun q hq => ?_, fun f hf => ?_, fun b hb => ?_, ⟨?_, ?_⟩, fun r hr => ?_, fun e he => ?_, ?_⟩, ⟨?_, fun q hq => ?_, mm, m3, ?_, fun q hq => ?_⟩, ⟨?_, ?_⟩, ?_, fun r hr => ?_⟩, fun q hq => ?_⟩
        · simp (disch := omega) only [ny_uprd, ev, if_neg]; exact h1
        · simp (disch := omega) only [ny_uprd, ev, if_neg]; exact h2
        · simp (disch := omega) only [ev, if_neg] at hq
          simp (disch := omega) only [ny_uprd, ev, if_neg]
          exact h3 q hq
        · simp (disch := omega) only [ny_uprd, ev, if_neg]
          exact h4 f hf
        · simp (disch := omega) only [ny_uprd, ev, if_neg]
          exact h5 b hb
        · simp (disch := omega) only [ny_uprd, ev, if_neg]; exact h6
        · simp (disch := omega) only [ny_uprd, ev, if_neg]; exact h7
        · simp (disch := omega) only [ev, if_neg] at hr
          simp (disch := omega) only [ny_uprd, ev, if_neg]
          exact h8 r hr
        · simp (disch := omega) only [ev, if_neg] at he
          have := h9 e he
          simp (disch := omega) only [ny_uprd, ev, if_neg]
          refine ⟨this.1, fun q => ?_⟩
          exact ⟨nz_vr_mv (fun j _ => by simp (disch := omega) only [ny_uprd, if_neg]) (this.2 q).1, nz_vr_mv (fun j _ => by simp (disch := omega) only [ny_uprd, if_neg]) (this.2 q).2⟩
        · funext j
          simp (disch := omega) only [ny_uprd, if_neg]
          rw [h10]
        · simp (disch := omega) only [ny_uprd, ev, if_neg]; exact m1
        · simp (disch := omega) only [ev, if_neg] at hq
          simp (disch := omega) only [ny_uprd, ev, if_neg]
          exact m2 q hq
        · simp (disch := omega) only [ny_uprd, if_neg]; exact m4
        · simp (disch := omega) only [ev, if_neg]; exact m5 q hq
        · simp (disch := omega) only [ny_uprd, ev, if_neg]; exact s1
        · simp (disch := omega) only [ny_uprd, ev, if_neg]; exact s2
        · simp (disch := omega) only [ny_uprd, ev, if_true, and_self]
        · have hr : r < a 6 + 1 := hr
          by_cases e : r = a 6
          · subst e
            simp (disch := omega) only [ny_uprd, ev, if_neg, if_true, and_self]
          · simp (disch := omega) only [ny_uprd, ev, if_neg]
            exact r2 r (by omega)
        · funext j
          simp (disch := omega) only [ny_uprd, if_neg]
      · rw [if_pos (by omega)] at h
        rw [show -nI 2 = nI 4294967294 from ny_m2]; exact h I (nz_cf_r hC2)
    · simp only [o_report, eb, eq, ← et]
      cases el : nz_in 0 top (nI l) with
      | none => rfl
      | some l' =>
        have : nz_in l' top w = none := by
          refine nz_in_n ?_ (by omega) fun m h1 h2 e => c ?_
          · have := (nz_in_i (by decide) (by omega) el).2.2
            omega
          · rw [e]; exact (ny_le (by omega) (by omega)).mpr h2
        simp only [this]
  refine ⟨fun cz => no ?_, fun cz => ⟨fun cw => no ?_, fun cw => ⟨fun c => main 999 (by decide) (if_neg c).symm cz cw, fun c => main 99 (by decide) (if_pos c).symm cz cw⟩⟩⟩
  · have : ∀ top, top < 2 ^ 31 → nz_in 0 top z = none := fun top ht => nz_in_n (by decide) ht fun m _ hm e => by
      rw [e] at cz; exact nI_pos (by omega) cz
    simp only [o_report, eb, eq, this (if y = nI 0 then 99 else 999) (by split <;> decide)]
  · simp only [o_report, eb, eq]
    cases el : nz_in 0 (if y = nI 0 then 99 else 999) z with
    | none => rfl
    | some l =>
      have ht : (if y = nI 0 then 99 else 999) < 2 ^ 31 := by split <;> decide
      have ez := nz_in_i (by decide) ht el
      have : nz_in l (if y = nI 0 then 99 else 999) w = none := by
        refine nz_in_n (by omega) ht fun m h1 h2 e => ?_
        rw [e, ez.1, ny_lt (by omega) (by omega)] at cw
        omega
      simp only [this]
end NZRP
