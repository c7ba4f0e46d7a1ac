/-! what each call leaves is as small as it should be -/
theorem nz_fg_i {a : ny_a} (h0 : a 0 ≤ 6) {x : Int32} {k : Nat} (h : nz_fg a x = some k) : k < a 0 ∧ x = nI k := by
  refine Classical.byContradiction fun q => ?_
  by_cases e : ∃ m, m < a 0 ∧ x = nI m
  · obtain ⟨m, m1, m2⟩ := e
    have := nz_fg_s h0 m1 m2
    rw [h] at this
    have e2 : k = m := Option.some.inj this
    subst e2
    exact q ⟨m1, m2⟩
  · have := nz_fg_n h0 (x := x) fun m m1 m2 => e ⟨m, m1, m2⟩
    rw [this] at h; cases h
section NZOV
variable {a : ny_a}
theorem o_figure_V (hV : ny_V a) (x y z w : Int32) : ny_V (o_figure x y z w a).2 := by
  unfold o_figure
  split
  · rename_i k t g n h1 h2 h3 h4
    split
    · exact hV
    · have b1 := nz_in_i (by decide) (by decide) h1
      have b2 := nz_in_i (by decide) (by decide) h2
      have b3 := nz_in_i (by decide) (by decide) h3
      have b4 := nz_in_i (by decide) (by decide) h4
      have := hV.1.1
      exact nz_add_V hV (by omega) ⟨b1.2.1, b1.2.2⟩ b2.2.2 b3.2.2 b4.2.2
  · exact hV
theorem o_change_V (hV : ny_V a) (x y z : Int32) : ny_V (o_change x y z a).2 := by
  unfold o_change
  split
  · rename_i k w h1 h2
    have b1 := nz_fg_i hV.1.1 h1
    have b2 := nz_in_i (by decide) (by decide) h2
    have v := hV.1.1
    split
    · rename_i v' h3
      have hw : w = 1 ∨ w = 2 ∨ w = 3 ∨ w = 4 := by omega
      rcases hw with rfl | rfl | rfl | rfl
      · have b3 := nz_in_i (by decide) (by decide) h3
        exact nz_au_V hV (Or.inl ⟨k, by omega, Or.inr (Or.inl ⟨by omega, b3.2.2⟩)⟩)
      · have b3 := nz_in_i (by decide) (by decide) h3
        exact nz_au_V hV (Or.inl ⟨k, by omega, Or.inr (Or.inr (Or.inl ⟨by omega, b3.2.2⟩))⟩)
      · have b3 := nz_in_i (by decide) (by decide) h3
        exact nz_au_V hV (Or.inl ⟨k, by omega, Or.inr (Or.inr (Or.inr (Or.inl ⟨by omega, b3.2.2⟩)))⟩)
      · have b3 := nz_in_i (by decide) (by decide) h3
        exact nz_au_V hV (Or.inl ⟨k, by omega, Or.inr (Or.inr (Or.inr (Or.inr (Or.inl ⟨by omega, b3.2.2⟩))))⟩)
    · exact hV
  · exact hV
theorem o_remake_V (hV : ny_V a) (x y : Int32) : ny_V (o_remake x y a).2 := by
  unfold o_remake
  split
  · rename_i k w h1 h2
    have b1 := nz_fg_i hV.1.1 h1
    have b2 := nz_in_i (by decide) (by decide) h2
    have v := hV.1.1
    exact nz_au_V hV (Or.inl ⟨k, by omega, Or.inl ⟨rfl, b2.2.1, b2.2.2⟩⟩)
  · exact hV
theorem o_weather_V (hV : ny_V a) (x y : Int32) : ny_V (o_weather x y a).2 := by
  unfold o_weather
  split
  · rename_i k w h1 h2
    have b1 := nz_in_i (by decide) (by decide) h1
    have b2 := nz_in_i (by decide) (by decide) h2
    exact nz_au_V hV (Or.inr (Or.inl ⟨k, by omega, rfl, b2.2.2⟩))
  · exact hV
theorem o_niche_V (hV : ny_V a) (x y z : Int32) : ny_V (o_niche x y z a).2 := by
  unfold o_niche
  split
  · rename_i f w v h1 h2 h3
    have b1 := nz_in_i (by decide) (by decide) h1
    have b3 := nz_in_i (by decide) (by decide) h3
    refine nz_au_V hV (Or.inl ⟨f, by omega, ?_⟩)
    by_cases e : w = 0
    · rw [if_pos e]; omega
    · rw [if_neg e]; omega
  · exact hV
theorem o_ends_V (hV : ny_V a) (x : Int32) : ny_V (o_ends x a).2 := by
  unfold o_ends
  split
  · rename_i e h1
    have b1 := nz_in_i (by decide) (by decide) h1
    split
    · rename_i h2
      exact nz_au_V hV (Or.inr (Or.inr (Or.inl ⟨rfl, h2, b1.2.1, b1.2.2⟩)))
    · exact hV
  · exact hV
theorem o_anew_V (hV : ny_V a) : ny_V (o_anew a).2 := (nz_anw_V hV).1
theorem o_bell_V (hV : ny_V a) : ny_V (o_bell a).2 := by
  unfold o_bell
  split
  · exact hV
  · exact (nz_nbV hV (by omega)).1
theorem o_report_V (hV : ny_V a) (x y z w : Int32) : ny_V (o_report x y z w a).2 := by
  unfold o_report
  split
  · rename_i b q h1 h2
    have b1 := nz_in_i (by decide) (by decide) h1
    have b2 := nz_in_i (by decide) (by decide) h2
    have ht : (if y = nI 0 then 99 else 999) ≤ 999 := by split <;> decide
    split
    · rename_i l h3
      have b3 := nz_in_i (by decide) (by omega) h3
      split
      · rename_i m h4
        have b4 := nz_in_i (by omega) (by omega) h4
        split
        · exact hV
        · have := hV.1.2.2.2.2.2.1
          exact nz_rep_V hV (by omega) b1.2.2 b2.2.2 (by omega) (by omega)
      · exact hV
    · exact hV
  · exact hV
theorem o_forget_V (hV : ny_V a) : ny_V (o_forget a).2 := by
  show ny_V (ny_au a 6 0)
  obtain ⟨⟨v0, v1, v2, v3, v5, v6, v7⟩, V2, V3, V4, V5, V6, V7, V8⟩ := hV
  have e : ∀ j, j ≠ 6 → ny_au a 6 0 j = a j := fun j h => if_neg h
  refine ⟨⟨v0, v1, v2, v3, v5, Nat.zero_le _, v7⟩, fun k hk => ?_, fun k hk => ?_, fun f hf => ?_, fun b hb => ?_, fun r hr => ?_, fun r hr => absurd hr (Nat.not_lt_zero _), fun i hi => ?_⟩
  · rw [e _ (by omega), e _ (by omega), e _ (by omega), e _ (by omega), e _ (by omega)]; exact V2 k hk
  · rw [e _ (by omega)]; exact V3 k hk
  · rw [e _ (by omega), e _ (by omega)]; exact V4 f hf
  · rw [e _ (by omega)]; exact V5 b hb
  · obtain ⟨w1, w2, w3, w4, w5, w6⟩ := V6 r hr
    rw [e (66 + 4 * r) (by omega), e (67 + 4 * r) (by omega), e (68 + 4 * r) (by omega), e (69 + 4 * r) (by omega), e (65 + 4 * r) (by omega)]
    exact ⟨w1, w2, w3, w4, w5, fun j hj => by rw [nt_dp_c (a := a) j fun i hi => e _ (by omega)]; exact w6 j hj⟩
  · rw [e _ (by omega), e _ (by omega), e _ (by omega)]; exact V8 i hi
theorem o_seed_V (hV : ny_V a) (x : Int32) : ny_V (o_seed x a).2 := nz_z4V hV _
theorem o_lot_V (hV : ny_V a) : ny_V (o_lot a).2 := by
  unfold o_lot
  split
  · exact hV
  · rename_i hb
    exact (nz_go (nz_z4V hV (nz_nz (a 4))) (act := nz_zt a) (by show nz_zt a ≤ a 0; exact nz_act_le a _) (by show a 1 < a 2; omega)).2.1
end NZOV
