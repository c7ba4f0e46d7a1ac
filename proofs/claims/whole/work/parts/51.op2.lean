/-! the class: a change -/
section NZOQ
variable {d Ln : Nat} {I : ny_I} {Q : Int32 → ny_I → Prop} {Q0 : ny_I → Prop} {a : ny_a}
theorem nz_Cl_12 {I' : ny_I} {k v : Nat} (hC : ny_Cl I a) (hV : ny_V a) (hk : k < 6) (hF : nz_fr 7 I' I) (hM : ny_Mo I' 7 (ny_au a (12 + 5 * k) v)) : nz_cf I' I (ny_au a (12 + 5 * k) v) := by
  have hS : ny_Sm (ny_au a (12 + 5 * k) v) a := fun j _ _ h => nz_au_ne (h k hk).2
  have ea : ∀ j, j ≠ 12 + 5 * k → ny_au a (12 + 5 * k) v j = a j := fun j hj => nz_au_ne hj
  have r := hC.2.2.2
  refine ⟨⟨nz_Ba_mv nz_m7 hF hS hV hC.1, hM, ?_, ?_, fun q hq => ?_⟩, fun q hq => hF.1 q (by omega) (by omega) (by omega)⟩
  · rw [hF.1 6 (by decide) (by decide) (by decide), ea 3 (by omega), ea 4 (by omega)]; exact hC.2.2.1
  · rw [hF.1 23 (by decide) (by decide) (by decide), ea 6 (by omega)]; exact r.1
  · rw [ea 6 (by omega)] at hq
    rw [hF.1 24 (by decide) (by decide) (by decide), hF.1 25 (by decide) (by decide) (by decide), hF.1 26 (by decide) (by decide) (by decide), hF.1 27 (by decide) (by decide) (by decide), ea _ (by omega), ea _ (by omega), ea _ (by omega), ea _ (by omega)]
    exact r.2 q hq
theorem q_No_changeRelieved {k : Nat} {b : Bool} (hC : ny_Cl I a) (hV : ny_V a) (hk : k < a 0) (h : ∀ I', nz_cf I' I (ny_au a (12 + 5 * k) (if b then 1 else 0)) → Q (nI (a (12 + 5 * k))) I') : ny_C1 (d + 1) m_No_changeRelieved [.ref 5, .int (nI k), .int (if b then 1 else 0)] Ln I Q := by
  have V1 := hV.1; have V2 := hV.2.1; have V3 := hV.2.2.1; have V4 := hV.2.2.2.1; have V5 := hV.2.2.2.2.1; obtain ⟨v0, v1, v2, v3, v5, v6, v7⟩ := V1
  have U := V2 k (by omega)
  refine s_No_changeRelieved_0 (q_Mo_isRelieved nz_m7 hC.2.1 (by omega) (q_No_oneIf ?_))
  refine q_Mo_put nz_m7 hC.2.1 hV hk fun I' hF hM => ?_
  have e : (if k < a 0 ∧ a (12 + 5 * k) = 1 then nI 1 else nI 0) = nI (a (12 + 5 * k)) := by
    by_cases q : a (12 + 5 * k) = 1
    · rw [if_pos ⟨hk, q⟩, q]
    · rw [if_neg (fun r => q r.2), show a (12 + 5 * k) = 0 by omega]
  rw [e]
  exact h I' (nz_Cl_12 hC hV (by omega) hF hM)
theorem q_No_change {x y z : Int32} (hC : ny_Cl I a) (hV : ny_V a) (h : ∀ I', nz_cf I' I (o_change x y z a).2 → Q (o_change x y z a).1 I') : ny_C1 (d + 2) m_No_change [.ref 5, .int x, .int y, .int z] Ln I Q := by
  have V1 := hV.1; have V2 := hV.2.1; have V3 := hV.2.2.1; have V4 := hV.2.2.2.1; have V5 := hV.2.2.2.2.1; obtain ⟨v0, v1, v2, v3, v5, v6, v7⟩ := V1
  have no : (o_change x y z a) = o_no a → Q (-1 : Int32) I := by
    intro e
    rw [e] at h
    rw [ny_m1]; exact h I (nz_cf_r hC)
  refine s_No_change_0 (q_No_O hC.1 hV (fun k ek hk ex => ⟨fun _ => ?_, fun q => absurd q (by decide)⟩) (fun ek => ⟨fun q => absurd rfl q, fun _ => no (by simp only [o_change, ek])⟩))
  subst ex
  have hk6 : k < 6 := by omega
  obtain ⟨g1, g2, g3⟩ := hC.1.2.1 k hk
  have g4 := hC.2.1.2.1 k hk
  have iy : ∀ w, 1 ≤ w → w ≤ 4 → y = nI w → nz_in 1 4 y = some w := fun w h1 hw e => nz_in_s (by decide) (by decide) h1 hw e
  have so : ∀ w v, 1 ≤ w → w ≤ 4 → y = nI w → nz_in 0 (o_top w) z = some v → o_change (nI k) y z a = (nI (a (8 + 5 * k + w)), ny_au a (8 + 5 * k + w) v) := by
    intro w v h1 hw e ev
    simp only [o_change, ek, iy w h1 hw e, ev]
  have sn : ∀ w, 1 ≤ w → w ≤ 4 → y = nI w → nz_in 0 (o_top w) z = none → o_change (nI k) y z a = o_no a := by
    intro w h1 hw e ev
    simp only [o_change, ek, iy w h1 hw e, ev]
  refine ⟨fun c => ?_, fun c => ?_, fun c => ?_, fun c => ?_, fun c1 c2 c3 c4 => no ?_⟩
  · refine q_No_I 0 99 rfl rfl (by decide) (by decide) (fun v ev _ hv ez => ⟨fun q => absurd q (by decide), fun _ => ?_⟩) (fun ev => ⟨fun _ => no (sn 1 (by decide) (by decide) c ev), fun q => absurd rfl q⟩)
    rw [so 1 v (by decide) (by decide) c ev] at h
    subst ez
    refine q_No_put6 (by decide) hk6 ?_
    rw [show I 8 k = nI (a (8 + 5 * k + 1)) by rw [show 8 + 5 * k + 1 = 9 + 5 * k by omega]; exact g4]
    exact h _ (nz_cf_p (by omega) hV hC)
  · refine q_No_I 0 9 rfl rfl (by decide) (by decide) (fun v ev _ hv ez => ⟨fun q => absurd q (by decide), fun _ => ?_⟩) (fun ev => ⟨fun _ => no (sn 2 (by decide) (by decide) c ev), fun q => absurd rfl q⟩)
    rw [so 2 v (by decide) (by decide) c ev] at h
    subst ez
    refine q_No_put6 (by decide) hk6 ?_
    rw [show I 10 k = nI (a (8 + 5 * k + 2)) by rw [show 8 + 5 * k + 2 = 10 + 5 * k by omega]; exact g2]
    exact h _ (nz_cf_p (by omega) hV hC)
  · refine q_No_isNiche (fun v ev hv ez => ⟨fun q => absurd q (by decide), fun _ => ?_⟩) (fun ev => ⟨fun _ => no (sn 3 (by decide) (by decide) c ev), fun q => absurd rfl q⟩)
    rw [so 3 v (by decide) (by decide) c ev] at h
    subst ez
    refine q_No_put6 (by decide) hk6 ?_
    rw [show I 11 k = nI (a (8 + 5 * k + 3)) by rw [show 8 + 5 * k + 3 = 11 + 5 * k by omega]; exact g3]
    exact h _ (nz_cf_p (by omega) hV hC)
  · refine q_No_I 0 1 rfl rfl (by decide) (by decide) (fun v ev _ hv ez => ⟨fun q => absurd q (by decide), fun _ => ?_⟩) (fun ev => ⟨fun _ => no (sn 4 (by decide) (by decide) c ev), fun q => absurd rfl q⟩)
    rw [so 4 v (by decide) (by decide) c ev, show 8 + 5 * k + 4 = 12 + 5 * k by omega] at h
    subst ez
    refine ⟨fun c5 => s_No_change_149 ?_, fun c5 => s_No_change_149 ?_⟩
    · have : v = 0 := by
        rw [ny_lit, ny_eq (by omega) (by decide)] at c5; omega
      subst this
      exact q_No_changeRelieved (b := false) hC hV hk h
    · have : v = 1 := by
        rw [ny_lit, ny_eq (by omega) (by decide)] at c5; omega
      subst this
      exact q_No_changeRelieved (b := true) hC hV hk h
  · have : nz_in 1 4 y = none := by
      refine nz_in_n (by decide) (by decide) fun m h1 hm e => ?_
      have hcs : m = 1 ∨ m = 2 ∨ m = 3 ∨ m = 4 := by omega
      rcases hcs with rfl | rfl | rfl | rfl
      · exact c1 e
      · exact c2 e
      · exact c3 e
      · exact c4 e
    simp only [o_change, ek, this]
end NZOQ
