/-! the class: a niche, a figure, a change -/
theorem ny_uprd (I : ny_I) (o p : Nat) (x : Int32) (q j : Nat) : ny_up I o p x q j = if q = o ∧ j = p then x else I q j := by
  unfold ny_up
  by_cases e : q = o
  · subst e
    rw [if_pos rfl]
    unfold upd
    by_cases e2 : j = p
    · rw [if_pos e2, if_pos ⟨rfl, e2⟩]
    · rw [if_neg e2, if_neg (fun r => e2 r.2)]
  · rw [if_neg e, if_neg (fun r => e r.1)]
section NZCP
variable {d Ln : Nat} {I : ny_I} {Q : Int32 → ny_I → Prop} {Q0 : ny_I → Prop} {a : ny_a}
theorem s_No_niche_49b {x1 x3 : Int32} (h : ny_C1 d m_No_put [.ref 13, .int x1, .int x3] Ln I (fun r2 I1 => Q r2 I1)) : ny_g (d + 1) m_No_niche 49 [(1, .int x1), (3, .int x3)] [.ref 13] Ln I (ny_r1 Ln Q) :=
  (ny_blk k_No_niche 24 2 (show ny_g (d + 1) m_No_niche 51 [(1, .int x1), (3, .int x3)] [.int x3, .int x1, .ref 13] Ln I (ny_r1 Ln Q) from (ny_ds1 k_No_niche (i := 26) (av := [.ref 13, .int x1, .int x3]) rfl z_No_put l_No_133 rfl rfl rfl h (fun r2 I1 h3 => (ny_e1 k_No_niche (i := 27) rfl rfl rfl h3)))))
theorem q_No_niche {x y z : Int32} (hC : ny_Cl I a) (hV : ny_V a) (h : ∀ I', nz_cf I' I (o_niche x y z a).2 → Q (o_niche x y z a).1 I') : ny_C1 (d + 2) m_No_niche [.ref 5, .int x, .int y, .int z] Ln I Q := by
  refine s_No_niche_0 (q_No_isNiche (fun f ef hf ex => ⟨fun q => absurd q (by decide), fun _ => q_No_I 0 1 rfl rfl (by decide) (by decide) (fun w ew _ hw ey => ⟨fun q => absurd q (by decide), fun _ => q_No_I 0 9 rfl rfl (by decide) (by decide) (fun v ev _ hv ez => ⟨fun _ => ?_, fun q => absurd q (by decide)⟩) (fun ev => ⟨fun q => absurd rfl q, fun _ => ?_⟩)⟩) (fun ew => ⟨fun _ => ?_, fun q => absurd rfl q⟩)⟩) (fun ef => ⟨fun _ => ?_, fun q => absurd rfl q⟩))
  · subst ex ey ez
    simp only [o_niche, ef, ew, ev] at h
    obtain ⟨g1, g2⟩ := hC.1.2.2.1 f (by omega)
    simp (disch := omega) only [ny_lit, nI_add, ny_mul, nI_clamp, ny_le, ny_lt, ny_eq, ny_div, ny_rem, ny_rem2, ny_inN]
    refine ⟨fun c => s_No_niche_49 (q_No_put6 (by decide) (by omega) ?_), fun c => s_No_niche_49b (q_No_put6 (by decide) (by omega) ?_)⟩
    · simp only [if_neg c] at h
      rw [g2]
      exact h _ (nz_cf_p (by omega) hV hC)
    · simp only [if_pos c] at h
      rw [g1]
      exact h _ (nz_cf_p (by omega) hV hC)
  · simp only [o_niche, ef, ew, ev] at h
    rw [ny_m1]; exact h I (nz_cf_r hC)
  · simp only [o_niche, ef, ew] at h
    rw [ny_m1]; exact h I (nz_cf_r hC)
  · simp only [o_niche, ef] at h
    rw [ny_m1]; exact h I (nz_cf_r hC)
/-- a figure more: all but the mask -/
theorem nz_add_v {a : ny_a} {k t g n j : Nat} : nz_add a k t g n j = if j = 0 then a 0 + 1 else if j = 12 + 5 * a 0 then 0 else if j = 11 + 5 * a 0 then n else if j = 10 + 5 * a 0 then g else if j = 9 + 5 * a 0 then t else if j = 8 + 5 * a 0 then k else a j := rfl
theorem nz_add_V {k t g n : Nat} (hV : ny_V a) (h6 : a 0 < 6) (hk : 1 ≤ k ∧ k ≤ 5) (ht : t ≤ 99) (hg : g ≤ 9) (hn : n ≤ 5) : ny_V (nz_add a k t g n) := by
  have eh : ∀ j, 38 ≤ j ∨ (0 < j ∧ j < 8) → nz_add a k t g n j = a j := by
    intro j hj
    rw [nz_add_v, if_neg (by omega), if_neg (by omega), if_neg (by omega), if_neg (by omega), if_neg (by omega), if_neg (by omega)]
  have e0 : nz_add a k t g n 0 = a 0 + 1 := rfl
  obtain ⟨⟨v0, v1, v2, v3, v5, v6, v7⟩, V2, V3, V4, V5, V6, V7, V8⟩ := hV
  refine ⟨?_, fun q hq => ?_, fun q hq => ?_, fun f hf => ?_, fun b hb => ?_, fun r hr => ?_, fun r hr => ?_, fun i hi => ?_⟩
  · rw [e0, eh 1 (by omega), eh 2 (by omega), eh 5 (by omega), eh 6 (by omega), eh 7 (by omega)]
    exact ⟨h6, v1, v2, v3, v5, v6, v7⟩
  · have := V2 q hq
    by_cases c : q = a 0
    · subst c
      simp (disch := omega) only [nz_add_v, if_neg, if_true]
      omega
    · simp (disch := omega) only [nz_add_v, if_neg]
      exact this
  · rw [e0] at hq
    by_cases c : q = a 0
    · subst c
      simp (disch := omega) only [nz_add_v, if_neg, if_true]
      exact hk.1
    · simp (disch := omega) only [nz_add_v, if_neg]
      exact V3 q (by omega)
  · rw [eh _ (by omega), eh _ (by omega)]; exact V4 f hf
  · rw [eh _ (by omega)]; exact V5 b hb
  · rw [eh 5 (by omega)] at hr
    rw [eh _ (by omega), eh _ (by omega), eh _ (by omega), eh _ (by omega), eh 7 (by omega), eh _ (by omega)]
    obtain ⟨w1, w2, w3, w4, w5, w6⟩ := V6 r hr
    refine ⟨w1, w2, w3, w4, w5, fun j hj => ?_⟩
    rw [nz_dp_c (a := a) (fun j hj => eh j (by omega))]
    exact w6 j hj
  · rw [eh 6 (by omega)] at hr
    rw [eh _ (by omega), eh _ (by omega), eh _ (by omega), eh _ (by omega)]; exact V7 r hr
  · rw [eh 7 (by omega)] at hi
    rw [eh _ (by omega), eh _ (by omega), eh _ (by omega)]; exact V8 i hi
/-- what each of the basin's methods leaves is as small as it should be -/
theorem nz_au_V {i v : Nat} (hV : ny_V a) (h : (∃ p, p < 6 ∧ (i = 8 + 5 * p ∧ 1 ≤ v ∧ v ≤ 5 ∨ i = 9 + 5 * p ∧ v ≤ 99 ∨ i = 10 + 5 * p ∧ v ≤ 9 ∨ i = 11 + 5 * p ∧ v ≤ 5 ∨ i = 12 + 5 * p ∧ v ≤ 1 ∨ i = 38 + p ∧ v ≤ 9 ∨ i = 44 + p ∧ v ≤ 9)) ∨ (∃ p, p < 16 ∧ i = 50 + p ∧ v ≤ 15) ∨ i = 2 ∧ a 1 ≤ v ∧ 1 ≤ v ∧ v ≤ 16 ∨ i = 3 ∨ i = 4) : ny_V (ny_au a i v) := by
  have hi : i < 66 ∧ i ≠ 0 ∧ i ≠ 1 ∧ i ≠ 5 ∧ i ≠ 6 ∧ i ≠ 7 := by
    rcases h with ⟨p, h⟩ | ⟨p, h⟩ | h <;> omega
  have eh : ∀ j, j ≠ i → ny_au a i v j = a j := fun j hj => nz_au_ne hj
  have ev : ∀ j, ny_au a i v j = if j = i then v else a j := fun j => rfl
  obtain ⟨⟨v0, v1, v2, v3, v5, v6, v7⟩, V2, V3, V4, V5, V6, V7, V8⟩ := hV
  refine ⟨?_, fun q hq => ?_, fun q hq => ?_, fun f hf => ?_, fun b hb => ?_, fun r hr => ?_, fun r hr => ?_, fun t ht => ?_⟩
  · rw [eh 0 (by omega), eh 1 (by omega), eh 5 (by omega), eh 6 (by omega), eh 7 (by omega), ev 2]
    split
    · next e =>
      rcases h with ⟨p, h⟩ | ⟨p, h⟩ | h <;> omega
    · omega
  · have := V2 q hq
    rw [ev, ev, ev, ev, ev]
    rcases h with ⟨p, h⟩ | ⟨p, h⟩ | h <;> (repeat' split) <;> omega
  · rw [eh 0 (by omega)] at hq
    have := V3 q hq
    rw [ev]
    rcases h with ⟨p, h⟩ | ⟨p, h⟩ | h <;> split <;> omega
  · have := V4 f hf
    rw [ev, ev]
    rcases h with ⟨p, h⟩ | ⟨p, h⟩ | h <;> (repeat' split) <;> omega
  · have := V5 b hb
    rw [ev]
    rcases h with ⟨p, h⟩ | ⟨p, h⟩ | h <;> split <;> omega
  · rw [eh 5 (by omega)] at hr
    have e65 : (if r = 0 then 0 else ny_au a i v (65 + 4 * r)) = (if r = 0 then 0 else a (65 + 4 * r)) := by
      split
      · rfl
      · rw [eh _ (by omega)]
    rw [e65, eh _ (by omega), eh _ (by omega), eh _ (by omega), eh _ (by omega), eh 7 (by omega)]
    obtain ⟨w1, w2, w3, w4, w5, w6⟩ := V6 r hr
    refine ⟨w1, w2, w3, w4, w5, fun j hj => ?_⟩
    rw [nz_dp_c (a := a) (fun j hj => eh j (by omega))]
    exact w6 j hj
  · rw [eh 6 (by omega)] at hr
    rw [eh _ (by omega), eh _ (by omega), eh _ (by omega), eh _ (by omega)]; exact V7 r hr
  · rw [eh 7 (by omega)] at ht
    rw [eh _ (by omega), eh _ (by omega), eh _ (by omega)]; exact V8 t ht
theorem q_No_figure {x y z w : Int32} (hC : ny_Cl I a) (hV : ny_V a) (h : ∀ I', nz_cf I' I (o_figure x y z w a).2 → Q (o_figure x y z w a).1 I') : ny_C1 (d + 2) m_No_figure [.ref 5, .int x, .int y, .int z, .int w] Ln I Q := by
  have V1 := hV.1; have V2 := hV.2.1; have V3 := hV.2.2.1; have V4 := hV.2.2.2.1; have V5 := hV.2.2.2.2.1; obtain ⟨v0, v1, v2, v3, v5, v6, v7⟩ := V1
  refine s_No_figure_0 (q_Ki_isMade (fun k ek hk1 hk ex => ⟨fun q => absurd q (by decide), fun _ => q_No_I 0 99 rfl rfl (by decide) (by decide) (fun t et _ ht ey => ⟨fun q => absurd q (by decide), fun _ => q_No_I 0 9 rfl rfl (by decide) (by decide) (fun g eg _ hg ez => ⟨fun q => absurd q (by decide), fun _ => q_No_isNiche (fun n en hn ew => ⟨fun _ => ?_, fun q => absurd q (by decide)⟩) (fun en => ⟨fun q => absurd rfl q, fun _ => ?_⟩)⟩) (fun eg => ⟨fun _ => ?_, fun q => absurd rfl q⟩)⟩) (fun et => ⟨fun _ => ?_, fun q => absurd rfl q⟩)⟩) (fun ek => ⟨fun _ => ?_, fun q => absurd rfl q⟩))
  · subst ex ey ez ew
    simp only [o_figure, ek, et, eg, en] at h
    rw [hC.1.1.1]
    simp (disch := omega) only [ny_lit, nI_add, ny_mul, nI_clamp, ny_le, ny_lt, ny_eq, ny_div, ny_rem, ny_rem2, ny_inN]
    refine ⟨fun c => ?_, fun c => ?_⟩
    · rw [if_neg (by omega)] at h
      simp (disch := omega) only [ny_inN, true_and]
      refine s_Mo_putRelieved_0 nz_m7 ⟨fun _ => ?_, fun q => absurd rfl q⟩
      obtain ⟨⟨⟨h1, h2⟩, h3, h4, h5, ⟨h6, h7⟩, h8, h9, h10⟩, ⟨m1, m2, m, m3, m4, m5⟩, ⟨s1, s2⟩, r1, r2⟩ := hC
      have ev : ∀ j, nz_add a k t g n j = if j = 0 then a 0 + 1 else if j = 12 + 5 * a 0 then 0 else if j = 11 + 5 * a 0 then n else if j = 10 + 5 * a 0 then g else if j = 9 + 5 * a 0 then t else if j = 8 + 5 * a 0 then k else a j := fun j => rfl
      have em : (ny_up (ny_up (ny_up (ny_up I 9 (a 0) (nI k)) 10 (a 0) (nI g)) 11 (a 0) (nI n)) 8 (a 0) (nI t) 7 1 &&& ((1 : Int32) <<< (nI (a 0) &&& 31) ^^^ -1)) = nI (m &&& (63 - 2 ^ a 0)) := by
        simp (disch := omega) only [ny_uprd, if_neg]
        rw [m4]
        exact nz_boff m m3 (a 0) (by omega)
      obtain ⟨b1, b2⟩ := nz_boff_t m m3 (a 0) (by omega)
      rw [em]
      refine h _ ⟨⟨⟨⟨?_, ?_⟩, fun q hq => ?_, fun f hf => ?_, fun b hb => ?_, ⟨?_, ?_⟩, fun r hr => ?_, fun e he => ?_, ?_⟩, ⟨?_, fun q hq => ?_, _, b1, ?_, fun q hq => ?_⟩, ⟨?_, ?_⟩, ?_, fun r hr => ?_⟩, fun q hq => ?_⟩
      · simp (disch := omega) only [ny_uprd, ev, if_neg, if_true, and_self]
      · simp (disch := omega) only [ny_uprd, ev, if_neg]; exact h2
      · have hq : q < a 0 + 1 := hq
        by_cases e : q = a 0
        · subst e
          simp (disch := omega) only [ny_uprd, ev, if_neg, if_true, and_self]
        · simp (disch := omega) only [ny_uprd, ev, if_neg]
          exact h3 q (by omega)
      · simp (disch := omega) only [ny_uprd, ev, if_neg]
        exact h4 f hf
      · simp (disch := omega) only [ny_uprd, ev, if_neg]
        exact h5 b hb
      · simp (disch := omega) only [ny_uprd, ev, if_neg]; exact h6
      · simp (disch := omega) only [ny_uprd, ev, if_neg]; exact h7
      · simp (disch := omega) only [ev, if_neg] at hr
        simp (disch := omega) only [ny_uprd, ev, if_neg]
        exact h8 r hr
      · simp (disch := omega) only [ev, if_neg] at he
        have := h9 e he
        simp (disch := omega) only [ny_uprd, ev, if_neg]
        refine ⟨this.1, fun q => ?_⟩
        exact ⟨nz_vr_mv (fun j _ => by simp (disch := omega) only [ny_uprd, if_neg]) (this.2 q).1, nz_vr_mv (fun j _ => by simp (disch := omega) only [ny_uprd, if_neg]) (this.2 q).2⟩
      · funext j
        simp (disch := omega) only [ny_uprd, if_neg]
        rw [h10]
      · simp (disch := omega) only [ny_uprd, ev, if_neg]; exact m1
      · have hq : q < a 0 + 1 := hq
        by_cases e : q = a 0
        · subst e
          simp (disch := omega) only [ny_uprd, ev, if_neg, if_true, and_self]
        · simp (disch := omega) only [ny_uprd, ev, if_neg]
          exact m2 q (by omega)
      · simp (disch := omega) only [ny_uprd, if_neg, if_true, and_self]
      · rw [b2 q hq, m5 q hq]
        by_cases e : q = a 0
        · subst e
          simp (disch := omega) [ev]
        · simp (disch := omega) only [ev, if_pos, if_neg]
          have : (q < a 0 + 1) ↔ q < a 0 := by omega
          simp [e, this]
      · simp (disch := omega) only [ny_uprd, ev, if_neg]; exact s1
      · simp (disch := omega) only [ny_uprd, ev, if_neg]; exact s2
      · simp (disch := omega) only [ny_uprd, ev, if_neg]; exact r1
      · simp (disch := omega) only [ev, if_neg] at hr
        simp (disch := omega) only [ny_uprd, ev, if_neg]
        exact r2 r hr
      · funext j
        simp (disch := omega) only [ny_uprd, if_neg]
    · rw [if_pos (by omega)] at h
      rw [show -nI 2 = nI 4294967294 from ny_m2]; exact h I (nz_cf_r hC)
  · simp only [o_figure, ek, et, eg, en] at h
    rw [ny_m1]; exact h I (nz_cf_r hC)
  · simp only [o_figure, ek, et, eg] at h
    rw [ny_m1]; exact h I (nz_cf_r hC)
  · simp only [o_figure, ek, et] at h
    rw [ny_m1]; exact h I (nz_cf_r hC)
  · simp only [o_figure, ek] at h
    rw [ny_m1]; exact h I (nz_cf_r hC)
end NZCP
