/-! the class: a bell goes by -/
section NZGB
variable {d Ln : Nat} {I : ny_I} {Q : Int32 → ny_I → Prop} {Q0 : ny_I → Prop} {a : ny_a} {c : Nat}
theorem q_Ba_goBy {act : Nat} (hc : ny_mc c) (hB : ny_Ba I a) (hM : ny_Mo I c a) (hV : ny_V a) (hact : act ≤ a 0) (h : ∀ I', nz_fr c I' I → ny_Mo I' c (ny_goa a act) → Q (nI (ny_gow a act)) I') :
    ny_C1 (d + 3) m_Ba_goBy [.ref 6, .ref c, .int (nI act)] Ln I Q := by
  have V1 := hV.1; have V2 := hV.2.1; have V3 := hV.2.2.1; have V4 := hV.2.2.2.1; have V5 := hV.2.2.2.2.1; obtain ⟨v0, v1, v2, v3, v5, v6, v7⟩ := V1
  have n22 : c ≠ 22 ∧ c + 1 ≠ 22 := by unfold ny_mc at hc; omega
  have hs : ∀ (aw w : Nat) (a1 : ny_a) (I1 : ny_I), ny_V a1 → ny_Sm a1 a → nz_fr c I1 I → ny_Mo I1 c a1 → ny_tld a act = (w, aw, a1) → ny_g (d + 3) m_Ba_goBy 90 [(0, .ref 6), (1, .ref c), (4, .int (nz_sk aw)), (5, .int (nI w)), (6, .int (nI 0))] [] Ln I1 (ny_r1 Ln Q) := by
    intro aw w a1 I1 hV1 hS1 hF hM1 e
    refine q_Ba_goBy90 hc hV1 (a1 0) 0 w I1 (by omega) (nz_Ba_mv hc hF hS1 hV hB) (by rw [nz_wrp_0]; exact hM1) fun I' w2 e2 h1 h2 => ?_
    unfold ny_goa ny_gow at h
    rw [e] at h
    rw [e2] at h2 ⊢
    exact h I' (nz_Fr_t h1 hF) h2
  have rS : ny_Sm a a := fun _ _ _ _ => rfl
  refine s_Ba_goBy_0 hc ?_
  by_cases h0 : act = 0
  · subst h0
    refine s_Ba_isUp_0 hc (s_Ba_isFigure_0 ⟨fun _ => ⟨fun _ => ⟨fun _ => ?_, fun q => absurd rfl q⟩, fun q => absurd rfl q⟩, fun q => absurd (by decide +kernel) q⟩)
    exact hs 6 0 a I hV rS ⟨fun _ _ _ _ => rfl, fun _ _ => rfl⟩ hM (by unfold ny_tld; rw [if_pos rfl])
  · obtain ⟨k, rfl⟩ : ∃ k, act = k + 1 := ⟨act - 1, by omega⟩
    have hk : k < a 0 := by omega
    have ek : nI (k + 1) - (1 : Int32) = nI k := nI_pred k
    have hp := nz_pay_le (k := k) hV (by omega)
    have hw2 := nz_wil_le (k := k) hV
    have U := V2 k (by omega)
    rw [ek]
    have et : ny_tld a (k + 1) = if ny_upb a k = false then (0, 6, a) else if ny_wil a k = 0 then (ny_pay a k, 6, if 0 < ny_pay a k then ny_au a (12 + 5 * k) 1 else a) else if ny_wil a k = 2 then (0, k, ny_au a (9 + 5 * k) (a (9 + 5 * k) - 25)) else (0, 6, a) := by
      unfold ny_tld
      rw [if_neg (by omega)]
      rfl
    refine q_Ba_isUp (d := d + 1) hc hB hM hV hk ?_
    by_cases hu : ny_upb a k = true
    · rw [if_pos hu]
      rw [if_neg (by simp [hu])] at et
      have hr0 : a (12 + 5 * k) = 0 := by
        simp only [ny_upb, Bool.and_eq_true, decide_eq_true_eq] at hu
        exact hu.1
      refine ⟨fun q => absurd q (by decide), fun _ => q_Ba_will hc hB hM hV hk fun I3 hF3 => ?_⟩
      have hB3 := nz_Ba_Fs hF3 hV hB
      have hM3 := nz_Mo_Fs hc hF3 hM
      have hf3 : nz_fr c I3 I := nz_Fs_Fr hF3
      simp (disch := omega) only [ny_lit, nI_add, ny_mul, nI_clamp, ny_le, ny_lt, ny_eq, ny_div, ny_rem, ny_rem2, ny_inN, true_and, hM3.2.1 k hk]
      refine ⟨fun c0 => ⟨fun c2 => ?_, fun c2 => ?_⟩, fun c0 => q_Ba_pays (d := d) hc hB3 hM3 hV hk ?_⟩
      · rw [if_neg c0, if_neg c2] at et
        exact hs 6 0 a I3 hV rS hf3 hM3 et
      · rw [if_neg c0, if_pos c2] at et
        have e25 : (if nI 0 < nI (a (9 + 5 * k)) - nI 25 then nI (a (9 + 5 * k)) - nI 25 else nI 0) = nI (a (9 + 5 * k) - 25) := ny_max0 (by omega) (by omega)
        rw [e25]
        have := hs k 0 _ (ny_up I3 (c + 1) k (nI (a (9 + 5 * k) - 25))) (nz_au9_V hV (by omega) (v := a (9 + 5 * k) - 25) (by omega)) (fun j _ _ hh => nz_au_ne (hh k (by omega)).1) (nz_Fr_t ⟨fun q _ _ h3 => ny_upne _ h3 _ _, fun j _ => by rw [ny_upne _ (Ne.symm n22.2)]⟩ hf3) (nz_Mo_9 hc hM3 (by omega) hV) et
        unfold nz_sk at this
        rw [if_pos (by omega)] at this
        exact this
      · rw [if_pos c0] at et
        simp (disch := omega) only [ny_lit, nI_add, ny_mul, nI_clamp, ny_le, ny_lt, ny_eq, ny_div, ny_rem, ny_rem2, ny_inN]
        refine ⟨fun c3 => ?_, fun c3 => ?_⟩
        · rw [if_neg (by omega)] at et
          refine s_Ba_goBy_53 hc (q_Mo_put (b := false) hc hM3 hV hk fun I5 hF5 hM5 => ?_)
          rw [nz_au_self (by rw [hr0]; rfl)] at hM5
          exact hs 6 _ a I5 hV rS (nz_Fr_t hF5 hf3) hM5 et
        · rw [if_pos (by omega)] at et
          refine s_Ba_goBy_53 hc (q_Mo_put (b := true) hc hM3 hV hk fun I5 hF5 hM5 => ?_)
          exact hs 6 _ _ I5 (nz_au12_V hV (by omega) (by decide)) (fun j _ _ hh => nz_au_ne (hh k (by omega)).2) (nz_Fr_t hF5 hf3) hM5 et
    · rw [if_neg hu]
      rw [if_pos (by simpa using hu)] at et
      exact ⟨fun _ => hs 6 0 a I hV rS ⟨fun _ _ _ _ => rfl, fun _ _ => rfl⟩ hM et, fun q => absurd rfl q⟩
theorem q_Ba_isOver (hc : ny_mc c) (hB : ny_Ba I a) (hM : ny_Mo I c a) (hV : ny_V a) (h : Q (if a 2 ≤ a 1 then nI 1 else nI 0) I) : ny_C1 d m_Ba_isOver [.ref 6, .ref c] Ln I Q := by
  have V1 := hV.1; have V2 := hV.2.1; have V3 := hV.2.2.1; have V4 := hV.2.2.2.1; have V5 := hV.2.2.2.2.1; obtain ⟨v0, v1, v2, v3, v5, v6, v7⟩ := V1
  refine s_Ba_isOver_0 hc ?_
  rw [hM.1, hB.1.2]
  simp (disch := omega) only [ny_lit, nI_add, ny_mul, nI_clamp, ny_le, ny_lt, ny_eq, ny_div, ny_rem, ny_rem2, ny_inN]
  refine ⟨fun q => ?_, fun q => ?_⟩
  · rw [if_neg (by omega)] at h; exact h
  · rw [if_pos (by omega)] at h; exact h
end NZGB
