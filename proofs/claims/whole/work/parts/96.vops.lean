/-! each call keeps what holds between two calls -/
section NVF
variable {I1 I2 : ny_I} {a a' b : ny_a} {k T : Nat} {tb : Nat → Nat} {n : Nat} {r : nz_rw} {s : nz_sh} {hf : nz_hf} {tr : nz_tr}
theorem nv_af (hVa : ny_V a') (hV : nv_V b k T tb n s hf) (C1 : ny_Cl I1 a') (D1 : nv_D I1 b k T tb n r s hf tr) (E1 : nv_E I1 b k T tb n r s hf tr) (F2 : nz_af 0 I2 I1 a') : nv I2 ∧ I2 0 = I1 0 :=
  ⟨nv_mstep hVa hV C1 D1 F2.1 (nv_Emv (fun j _ => by rw [F2.2.1 102 (by decide) (by decide)]) (fun c x => F2.2.1 c (by omega) (by omega)) E1) (fun c hc => F2.2.1 c (by omega) (by omega)), F2.2.1 0 (by decide) (by decide)⟩
theorem nv_pf (hVa : ny_V a') (hV : nv_V b k T tb n s hf) (C1 : ny_Cl I1 a') (D1 : nv_D I1 b k T tb n r s hf tr) (E1 : nv_E I1 b k T tb n r s hf tr) (F2 : nz_pf 0 I2 I1 a') : nv I2 ∧ I2 0 = I1 0 :=
  ⟨nv_mstep hVa hV C1 D1 F2.1 (nv_Emv (fun j x => F2.2.2.1 j (by omega)) (fun c x => F2.2.1 c (by omega) (by omega) (by omega) (by omega) (by omega)) E1) (fun c hc => F2.2.1 c (by omega) (by omega) (by omega) (by omega) (by omega)), F2.2.1 0 (by decide) (by decide) (by decide) (by decide) (by decide)⟩
theorem nv_gf (hVa : ny_V a') (hV : nv_V b k T tb n s hf) (C1 : ny_Cl I1 a') (D1 : nv_D I1 b k T tb n r s hf tr) (E1 : nv_E I1 b k T tb n r s hf tr) (F2 : nz_gf 0 I2 I1 a') : nv I2 ∧ I2 0 = I1 0 :=
  ⟨nv_mstep hVa hV C1 D1 F2.1 (nv_Emv (fun j x => F2.2.2.1 j (by omega)) (fun c x => F2.2.1 c (by omega) (by omega) (by omega)) E1) (fun c hc => F2.2.1 c (by omega) (by omega) (by omega)), F2.2.1 0 (by decide) (by decide) (by decide)⟩
theorem nv_ef (hVa : ny_V a') (hV : nv_V b k T tb n s hf) (C1 : ny_Cl I1 a') (D1 : nv_D I1 b k T tb n r s hf tr) (M1 : ny_Md I1 a') (E1 : nv_E I1 b k T tb n r s hf tr) (F2 : nz_ef I2 I1) : nv I2 ∧ I2 0 = I1 0 :=
  ⟨nv_mstep hVa hV C1 D1 (fun j => by rw [F2.1 103 (by decide) (by decide) (by decide)]; exact M1 j) (nv_Emv (fun j x => F2.2 j (by omega) (by omega)) (fun c x => F2.1 c (by omega) (by omega) (by omega)) E1) (fun c hc => F2.1 c (by omega) (by omega) (by omega)), F2.1 0 (by decide) (by decide) (by decide)⟩
theorem nv_id (hVa : ny_V a') (hV : nv_V b k T tb n s hf) (C1 : ny_Cl I1 a') (D1 : nv_D I1 b k T tb n r s hf tr) (M1 : ny_Md I1 a') (E1 : nv_E I1 b k T tb n r s hf tr) : nv I1 := ⟨a', b, k, T, tb, n, r, s, hf, tr, hVa, hV, C1, D1, M1, E1⟩
theorem nI_ij {x y : Nat} (hx : x < 2 ^ 31) (hy : y < 2 ^ 31) (h : nI x = nI y) : x = y := (ny_eq hx hy).mp h
end NVF
section NVO
variable {i Ln : Nat} {I : ny_I} {K : ny_I → Prop}
theorem v_figure (hv : nv I) (K1 : ∀ I', nv I' → I' 0 = I 0 → K I') : ny_C1 1300 m_No_figure [.ref 5, .int (I 0 (i + 1)), .int (I 0 (i + 2)), .int (I 0 (i + 3)), .int (I 0 (i + 4))] Ln I (fun r I1 => ny_C1 1300 m_Md_figure [.ref 102, .int (I1 0 (i + 1)), .int (I1 0 (i + 2)), .int (I1 0 (i + 3)), .int (I1 0 (i + 4))] Ln I1 (fun r2 I2 => r = r2 ∧ K I2)) := by
  obtain ⟨a, b, kk, T, tb, n, r, s, hf, tr, hVa, hV, hC, hD, hM, hE⟩ := hv
  refine q_No_figure hC hVa (fun I1 F1 => ?_)
  obtain ⟨D1, e0⟩ := nv_cf hV F1 hD
  obtain ⟨M1, E1⟩ := nv_Mlow (fun c hc => F1.2 c (by omega)) hM hE
  have C1 := F1.1
  rw [e0]
  refine q_Md_figure M1 hVa (fun I2 F2 => ?_)
  obtain ⟨g1, g2⟩ := nv_af (o_figure_V hVa _ _ _ _) hV C1 D1 E1 F2
  exact ⟨rfl, K1 I2 g1 (g2.trans e0)⟩
theorem v_change (hv : nv I) (K1 : ∀ I', nv I' → I' 0 = I 0 → K I') : ny_C1 1300 m_No_change [.ref 5, .int (I 0 (i + 1)), .int (I 0 (i + 2)), .int (I 0 (i + 3))] Ln I (fun r I1 => ny_C1 1300 m_Md_change [.ref 102, .int (I1 0 (i + 1)), .int (I1 0 (i + 2)), .int (I1 0 (i + 3))] Ln I1 (fun r2 I2 => r = r2 ∧ K I2)) := by
  obtain ⟨a, b, kk, T, tb, n, r, s, hf, tr, hVa, hV, hC, hD, hM, hE⟩ := hv
  refine q_No_change hC hVa (fun I1 F1 => ?_)
  obtain ⟨D1, e0⟩ := nv_cf hV F1 hD
  obtain ⟨M1, E1⟩ := nv_Mlow (fun c hc => F1.2 c (by omega)) hM hE
  have C1 := F1.1
  rw [e0]
  refine q_Md_change M1 hVa (fun I2 F2 => ?_)
  obtain ⟨g1, g2⟩ := nv_af (o_change_V hVa _ _ _) hV C1 D1 E1 F2
  exact ⟨rfl, K1 I2 g1 (g2.trans e0)⟩
theorem v_remake (hv : nv I) (K1 : ∀ I', nv I' → I' 0 = I 0 → K I') : ny_C1 1300 m_No_remake [.ref 5, .int (I 0 (i + 1)), .int (I 0 (i + 2))] Ln I (fun r I1 => ny_C1 1300 m_Md_remake [.ref 102, .int (I1 0 (i + 1)), .int (I1 0 (i + 2))] Ln I1 (fun r2 I2 => r = r2 ∧ K I2)) := by
  obtain ⟨a, b, kk, T, tb, n, r, s, hf, tr, hVa, hV, hC, hD, hM, hE⟩ := hv
  refine q_No_remake hC hVa (fun I1 F1 => ?_)
  obtain ⟨D1, e0⟩ := nv_cf hV F1 hD
  obtain ⟨M1, E1⟩ := nv_Mlow (fun c hc => F1.2 c (by omega)) hM hE
  have C1 := F1.1
  rw [e0]
  refine q_Md_remake M1 hVa (fun I2 F2 => ?_)
  obtain ⟨g1, g2⟩ := nv_af (o_remake_V hVa _ _) hV C1 D1 E1 F2
  exact ⟨rfl, K1 I2 g1 (g2.trans e0)⟩
theorem v_weather (hv : nv I) (K1 : ∀ I', nv I' → I' 0 = I 0 → K I') : ny_C1 1300 m_No_weather [.ref 5, .int (I 0 (i + 1)), .int (I 0 (i + 2))] Ln I (fun r I1 => ny_C1 1300 m_Md_weather [.ref 102, .int (I1 0 (i + 1)), .int (I1 0 (i + 2))] Ln I1 (fun r2 I2 => r = r2 ∧ K I2)) := by
  obtain ⟨a, b, kk, T, tb, n, r, s, hf, tr, hVa, hV, hC, hD, hM, hE⟩ := hv
  refine q_No_weather hC hVa (fun I1 F1 => ?_)
  obtain ⟨D1, e0⟩ := nv_cf hV F1 hD
  obtain ⟨M1, E1⟩ := nv_Mlow (fun c hc => F1.2 c (by omega)) hM hE
  have C1 := F1.1
  rw [e0]
  refine q_Md_weather M1 (fun I2 F2 => ?_)
  obtain ⟨g1, g2⟩ := nv_af (o_weather_V hVa _ _) hV C1 D1 E1 F2
  exact ⟨rfl, K1 I2 g1 (g2.trans e0)⟩
theorem v_niche (hv : nv I) (K1 : ∀ I', nv I' → I' 0 = I 0 → K I') : ny_C1 1300 m_No_niche [.ref 5, .int (I 0 (i + 1)), .int (I 0 (i + 2)), .int (I 0 (i + 3))] Ln I (fun r I1 => ny_C1 1300 m_Md_niche [.ref 102, .int (I1 0 (i + 1)), .int (I1 0 (i + 2)), .int (I1 0 (i + 3))] Ln I1 (fun r2 I2 => r = r2 ∧ K I2)) := by
  obtain ⟨a, b, kk, T, tb, n, r, s, hf, tr, hVa, hV, hC, hD, hM, hE⟩ := hv
  refine q_No_niche hC hVa (fun I1 F1 => ?_)
  obtain ⟨D1, e0⟩ := nv_cf hV F1 hD
  obtain ⟨M1, E1⟩ := nv_Mlow (fun c hc => F1.2 c (by omega)) hM hE
  have C1 := F1.1
  rw [e0]
  refine q_Md_niche M1 (fun I2 F2 => ?_)
  obtain ⟨g1, g2⟩ := nv_af (o_niche_V hVa _ _ _) hV C1 D1 E1 F2
  exact ⟨rfl, K1 I2 g1 (g2.trans e0)⟩
theorem v_ends (hv : nv I) (K1 : ∀ I', nv I' → I' 0 = I 0 → K I') : ny_C1 1300 m_No_ends [.ref 5, .int (I 0 (i + 1))] Ln I (fun r I1 => ny_C1 1300 m_Md_ends [.ref 102, .int (I1 0 (i + 1))] Ln I1 (fun r2 I2 => r = r2 ∧ K I2)) := by
  obtain ⟨a, b, kk, T, tb, n, r, s, hf, tr, hVa, hV, hC, hD, hM, hE⟩ := hv
  refine q_No_ends hC hVa (fun I1 F1 => ?_)
  obtain ⟨D1, e0⟩ := nv_cf hV F1 hD
  obtain ⟨M1, E1⟩ := nv_Mlow (fun c hc => F1.2 c (by omega)) hM hE
  have C1 := F1.1
  rw [e0]
  refine q_Md_ends M1 hVa (fun I2 F2 => ?_)
  obtain ⟨g1, g2⟩ := nv_af (o_ends_V hVa _) hV C1 D1 E1 F2
  exact ⟨rfl, K1 I2 g1 (g2.trans e0)⟩
theorem v_anew (hv : nv I) (K1 : ∀ I', nv I' → I' 0 = I 0 → K I') : ny_C1 1300 m_No_anew [.ref 5] Ln I (fun r I1 => ny_C1 1300 m_Md_anew [.ref 102] Ln I1 (fun r2 I2 => r = r2 ∧ K I2)) := by
  obtain ⟨a, b, kk, T, tb, n, r, s, hf, tr, hVa, hV, hC, hD, hM, hE⟩ := hv
  refine q_No_anew hC hVa (fun I1 F1 => ?_)
  obtain ⟨D1, e0⟩ := nv_cf hV F1 hD
  obtain ⟨M1, E1⟩ := nv_Mlow (fun c hc => F1.2 c (by omega)) hM hE
  have C1 := F1.1
  refine q_Md_anew M1 hVa (fun I2 F2 => ?_)
  obtain ⟨g1, g2⟩ := nv_af (o_anew_V hVa) hV C1 D1 E1 F2
  exact ⟨rfl, K1 I2 g1 (g2.trans e0)⟩
theorem v_bell (hv : nv I) (K1 : ∀ I', nv I' → I' 0 = I 0 → K I') : ny_C1 1300 m_No_bell [.ref 5] Ln I (fun r I1 => ny_C1 1300 m_Md_bell [.ref 102] Ln I1 (fun r2 I2 => r = r2 ∧ K I2)) := by
  obtain ⟨a, b, kk, T, tb, n, r, s, hf, tr, hVa, hV, hC, hD, hM, hE⟩ := hv
  refine q_No_bell hC hVa (fun I1 F1 => ?_)
  obtain ⟨D1, e0⟩ := nv_cf hV F1 hD
  obtain ⟨M1, E1⟩ := nv_Mlow (fun c hc => F1.2 c (by omega)) hM hE
  have C1 := F1.1
  refine q_Md_bell M1 hVa (fun I2 F2 => ?_)
  obtain ⟨g1, g2⟩ := nv_af (o_bell_V hVa) hV C1 D1 E1 F2
  exact ⟨rfl, K1 I2 g1 (g2.trans e0)⟩
theorem v_report (hv : nv I) (K1 : ∀ I', nv I' → I' 0 = I 0 → K I') : ny_C1 1300 m_No_report [.ref 5, .int (I 0 (i + 1)), .int (I 0 (i + 2)), .int (I 0 (i + 3)), .int (I 0 (i + 4))] Ln I (fun r I1 => ny_C1 1300 m_Md_report [.ref 102, .int (I1 0 (i + 1)), .int (I1 0 (i + 2)), .int (I1 0 (i + 3)), .int (I1 0 (i + 4))] Ln I1 (fun r2 I2 => r = r2 ∧ K I2)) := by
  obtain ⟨a, b, kk, T, tb, n, r, s, hf, tr, hVa, hV, hC, hD, hM, hE⟩ := hv
  refine q_No_report hC hVa (fun I1 F1 => ?_)
  obtain ⟨D1, e0⟩ := nv_cf hV F1 hD
  obtain ⟨M1, E1⟩ := nv_Mlow (fun c hc => F1.2 c (by omega)) hM hE
  have C1 := F1.1
  rw [e0]
  refine q_Md_report M1 hVa (fun I2 F2 => ?_)
  obtain ⟨g1, g2⟩ := nv_af (o_report_V hVa _ _ _ _) hV C1 D1 E1 F2
  exact ⟨rfl, K1 I2 g1 (g2.trans e0)⟩
theorem v_forget (hv : nv I) (K1 : ∀ I', nv I' → I' 0 = I 0 → K I') : ny_C1 1300 m_No_forget [.ref 5] Ln I (fun r I1 => ny_C1 1300 m_Md_forget [.ref 102] Ln I1 (fun r2 I2 => r = r2 ∧ K I2)) := by
  obtain ⟨a, b, kk, T, tb, n, r, s, hf, tr, hVa, hV, hC, hD, hM, hE⟩ := hv
  refine q_No_forget hC (fun I1 F1 => ?_)
  obtain ⟨D1, e0⟩ := nv_cf hV F1 hD
  obtain ⟨M1, E1⟩ := nv_Mlow (fun c hc => F1.2 c (by omega)) hM hE
  have C1 := F1.1
  refine q_Md_forget M1 (fun I2 F2 => ?_)
  obtain ⟨g1, g2⟩ := nv_af (o_forget_V hVa) hV C1 D1 E1 F2
  exact ⟨rfl, K1 I2 g1 (g2.trans e0)⟩
theorem v_seed (hv : nv I) (K1 : ∀ I', nv I' → I' 0 = I 0 → K I') : ny_C1 1300 m_No_seed [.ref 5, .int (I 0 (i + 1))] Ln I (fun r I1 => ny_C1 1300 m_Md_seed [.ref 102, .int (I1 0 (i + 1))] Ln I1 (fun r2 I2 => r = r2 ∧ K I2)) := by
  obtain ⟨a, b, kk, T, tb, n, r, s, hf, tr, hVa, hV, hC, hD, hM, hE⟩ := hv
  refine q_No_seed hC hVa (fun I1 F1 => ?_)
  obtain ⟨D1, e0⟩ := nv_cf hV F1 hD
  obtain ⟨M1, E1⟩ := nv_Mlow (fun c hc => F1.2 c (by omega)) hM hE
  have C1 := F1.1
  rw [e0]
  refine q_Md_seed M1 (fun I2 F2 => ?_)
  obtain ⟨g1, g2⟩ := nv_af (o_seed_V hVa _) hV C1 D1 E1 F2
  exact ⟨rfl, K1 I2 g1 (g2.trans e0)⟩
theorem v_lot (hv : nv I) (K1 : ∀ I', nv I' → I' 0 = I 0 → K I') : ny_C1 1300 m_No_lot [.ref 5] Ln I (fun r I1 => ny_C1 1300 m_Md_lot [.ref 102] Ln I1 (fun r2 I2 => r = r2 ∧ K I2)) := by
  obtain ⟨a, b, kk, T, tb, n, r, s, hf, tr, hVa, hV, hC, hD, hM, hE⟩ := hv
  refine q_No_lot hC hVa (fun I1 F1 => ?_)
  obtain ⟨D1, e0⟩ := nv_cf hV F1 hD
  obtain ⟨M1, E1⟩ := nv_Mlow (fun c hc => F1.2 c (by omega)) hM hE
  have C1 := F1.1
  refine q_Md_lot M1 hVa (fun I2 F2 => ?_)
  obtain ⟨g1, g2⟩ := nv_af (o_lot_V hVa) hV C1 D1 E1 F2
  exact ⟨rfl, K1 I2 g1 (g2.trans e0)⟩
theorem v_figureOf (hv : nv I) (K1 : ∀ I', nv I' → I' 0 = I 0 → K I') : ny_C1 1300 m_No_figureOf [.ref 5, .int (I 0 (i + 1)), .int (I 0 (i + 2))] Ln I (fun r I1 => ny_C1 1300 m_Md_figureOf [.ref 102, .int (I1 0 (i + 1)), .int (I1 0 (i + 2))] Ln I1 (fun r2 I2 => r = r2 ∧ K I2)) := by
  obtain ⟨a, b, kk, T, tb, n, r, s, hf, tr, hVa, hV, hC, hD, hM, hE⟩ := hv
  refine q_No_figureOf hC hVa (fun I1 F1 => ?_)
  obtain ⟨D1, e0⟩ := nv_cf hV F1 hD
  obtain ⟨M1, E1⟩ := nv_Mlow (fun c hc => F1.2 c (by omega)) hM hE
  have C1 := F1.1
  rw [e0]
  refine q_Md_figureOf M1 hVa ?_
  exact ⟨rfl, K1 I1 (nv_id hVa hV C1 D1 M1 E1) e0⟩
theorem v_nicheOf (hv : nv I) (K1 : ∀ I', nv I' → I' 0 = I 0 → K I') : ny_C1 1300 m_No_nicheOf [.ref 5, .int (I 0 (i + 1)), .int (I 0 (i + 2))] Ln I (fun r I1 => ny_C1 1300 m_Md_nicheOf [.ref 102, .int (I1 0 (i + 1)), .int (I1 0 (i + 2))] Ln I1 (fun r2 I2 => r = r2 ∧ K I2)) := by
  obtain ⟨a, b, kk, T, tb, n, r, s, hf, tr, hVa, hV, hC, hD, hM, hE⟩ := hv
  exact q_No_nicheOf hC (q_Md_nicheOf hM ⟨rfl, K1 I (nv_id hVa hV hC hD hM hE) rfl⟩)
theorem v_state (hv : nv I) (K1 : ∀ I', nv I' → I' 0 = I 0 → K I') : ny_C1 1300 m_No_state [.ref 5, .int (I 0 (i + 1))] Ln I (fun r I1 => ny_C1 1300 m_Md_state [.ref 102, .int (I1 0 (i + 1))] Ln I1 (fun r2 I2 => r = r2 ∧ K I2)) := by
  obtain ⟨a, b, kk, T, tb, n, r, s, hf, tr, hVa, hV, hC, hD, hM, hE⟩ := hv
  exact q_No_state hC hVa (q_Md_state hM hVa ⟨rfl, K1 I (nv_id hVa hV hC hD hM hE) rfl⟩)
theorem v_rings (hv : nv I) (K1 : ∀ I', nv I' → I' 0 = I 0 → K I') : ny_C1 1300 m_No_rings [.ref 5, .int (I 0 (i + 1))] Ln I (fun r I1 => ny_C1 1300 m_Md_rings [.ref 102, .int (I1 0 (i + 1))] Ln I1 (fun r2 I2 => r = r2 ∧ K I2)) := by
  obtain ⟨a, b, kk, T, tb, n, r, s, hf, tr, hVa, hV, hC, hD, hM, hE⟩ := hv
  exact q_No_rings hC hVa (q_Md_rings hM hVa ⟨rfl, K1 I (nv_id hVa hV hC hD hM hE) rfl⟩)
theorem v_way (hv : nv I) (K1 : ∀ I', nv I' → I' 0 = I 0 → K I') : ny_C1 1300 m_No_way [.ref 5, .int (I 0 (i + 1)), .int (I 0 (i + 2)), .int (I 0 (i + 3))] Ln I (fun r I1 => ny_C1 1300 m_Md_way [.ref 102, .int (I1 0 (i + 1)), .int (I1 0 (i + 2)), .int (I1 0 (i + 3))] Ln I1 (fun r2 I2 => r = r2 ∧ K I2)) := by
  obtain ⟨a, b, kk, T, tb, n, r, s, hf, tr, hVa, hV, hC, hD, hM, hE⟩ := hv
  exact q_No_way hC hVa (q_Md_way hM hVa ⟨rfl, K1 I (nv_id hVa hV hC hD hM hE) rfl⟩)
theorem v_best (hv : nv I) (K1 : ∀ I', nv I' → I' 0 = I 0 → K I') : ny_C1 1300 m_No_best [.ref 5, .int (I 0 (i + 1))] Ln I (fun r I1 => ny_C1 1300 m_Md_best [.ref 102, .int (I1 0 (i + 1))] Ln I1 (fun r2 I2 => r = r2 ∧ K I2)) := by
  obtain ⟨a, b, kk, T, tb, n, r, s, hf, tr, hVa, hV, hC, hD, hM, hE⟩ := hv
  refine q_No_best hC hVa (fun I1 F1 => ?_)
  obtain ⟨D1, e0⟩ := nv_cp hV F1 hD
  obtain ⟨M1, E1⟩ := nv_Mlow (fun c hc => F1.2 c (by omega)) hM hE
  have C1 := F1.1
  rw [e0]
  refine q_Md_best M1 hVa (fun I2 F2 => ?_)
  obtain ⟨g1, g2⟩ := nv_pf hVa hV C1 D1 E1 F2
  exact ⟨rfl, K1 I2 g1 (g2.trans e0)⟩
theorem v_ith (hv : nv I) (K1 : ∀ I', nv I' → I' 0 = I 0 → K I') : ny_C1 1300 m_No_ith [.ref 5, .int (I 0 (i + 1)), .int (I 0 (i + 2))] Ln I (fun r I1 => ny_C1 1300 m_Md_ith [.ref 102, .int (I1 0 (i + 1)), .int (I1 0 (i + 2))] Ln I1 (fun r2 I2 => r = r2 ∧ K I2)) := by
  obtain ⟨a, b, kk, T, tb, n, r, s, hf, tr, hVa, hV, hC, hD, hM, hE⟩ := hv
  refine q_No_ith hC hVa (fun I1 F1 => ?_)
  obtain ⟨D1, e0⟩ := nv_cp hV F1 hD
  obtain ⟨M1, E1⟩ := nv_Mlow (fun c hc => F1.2 c (by omega)) hM hE
  have C1 := F1.1
  rw [e0]
  refine q_Md_ith M1 hVa (fun I2 F2 => ?_)
  obtain ⟨g1, g2⟩ := nv_pf hVa hV C1 D1 E1 F2
  exact ⟨rfl, K1 I2 g1 (g2.trans e0)⟩
theorem v_ways (hv : nv I) (K1 : ∀ I', nv I' → I' 0 = I 0 → K I') : ny_C1 1300 m_No_ways [.ref 5, .int (I 0 (i + 1))] Ln I (fun r I1 => ny_C1 1300 m_Md_ways [.ref 102, .int (I1 0 (i + 1))] Ln I1 (fun r2 I2 => r = r2 ∧ K I2)) := by
  obtain ⟨a, b, kk, T, tb, n, r, s, hf, tr, hVa, hV, hC, hD, hM, hE⟩ := hv
  refine q_No_ways hC hVa (fun I1 F1 => ?_)
  obtain ⟨D1, e0⟩ := nv_cp hV F1 hD
  obtain ⟨M1, E1⟩ := nv_Mlow (fun c hc => F1.2 c (by omega)) hM hE
  have C1 := F1.1
  rw [e0]
  refine q_Md_ways M1 hVa (fun I2 F2 => ?_)
  obtain ⟨g1, g2⟩ := nv_pf hVa hV C1 D1 E1 F2
  exact ⟨rfl, K1 I2 g1 (g2.trans e0)⟩
theorem v_roster (hv : nv I) (K1 : ∀ I', nv I' → I' 0 = I 0 → K I') : ny_C1 1300 m_No_roster [.ref 5, .int (I 0 (i + 1)), .int (I 0 (i + 2))] Ln I (fun r I1 => ny_C1 1300 m_Md_roster [.ref 102, .int (I1 0 (i + 1)), .int (I1 0 (i + 2))] Ln I1 (fun r2 I2 => r = r2 ∧ K I2)) := by
  obtain ⟨a, b, kk, T, tb, n, r, s, hf, tr, hVa, hV, hC, hD, hM, hE⟩ := hv
  refine q_No_roster hC hVa (fun I1 F1 => ?_)
  obtain ⟨D1, e0⟩ := nv_cp hV F1 hD
  obtain ⟨M1, E1⟩ := nv_Mlow (fun c hc => F1.2 c (by omega)) hM hE
  have C1 := F1.1
  rw [e0]
  refine q_Md_roster M1 hVa (fun I2 F2 => ?_)
  obtain ⟨g1, g2⟩ := nv_pf hVa hV C1 D1 E1 F2
  exact ⟨rfl, K1 I2 g1 (g2.trans e0)⟩
theorem v_bars (hv : nv I) (K1 : ∀ I', nv I' → I' 0 = I 0 → K I') : ny_C1 1300 m_No_bars [.ref 5, .int (I 0 (i + 1)), .int (I 0 (i + 2))] Ln I (fun r I1 => ny_C1 1300 m_Md_bars [.ref 102, .int (I1 0 (i + 1)), .int (I1 0 (i + 2))] Ln I1 (fun r2 I2 => r = r2 ∧ K I2)) := by
  obtain ⟨a, b, kk, T, tb, n, r, s, hf, tr, hVa, hV, hC, hD, hM, hE⟩ := hv
  refine q_No_bars hC hVa (fun I1 F1 => ?_)
  obtain ⟨D1, e0⟩ := nv_cp hV F1 hD
  obtain ⟨M1, E1⟩ := nv_Mlow (fun c hc => F1.2 c (by omega)) hM hE
  have C1 := F1.1
  rw [e0]
  refine q_Md_bars M1 hVa (fun I2 F2 => ?_)
  obtain ⟨g1, g2⟩ := nv_pf hVa hV C1 D1 E1 F2
  exact ⟨rfl, K1 I2 g1 (g2.trans e0)⟩
theorem v_game (hv : nv I) (K1 : ∀ I', nv I' → I' 0 = I 0 → K I') : ny_C1 1300 m_No_game [.ref 5, .int (I 0 (i + 1))] Ln I (fun r I1 => ny_C1 1300 m_Md_game [.ref 102, .int (I1 0 (i + 1))] Ln I1 (fun r2 I2 => r = r2 ∧ K I2)) := by
  obtain ⟨a, b, kk, T, tb, n, r, s, hf, tr, hVa, hV, hC, hD, hM, hE⟩ := hv
  refine q_No_game hC hVa (fun I1 F1 => ?_)
  obtain ⟨D1, e0⟩ := nv_cp hV F1 hD
  obtain ⟨M1, E1⟩ := nv_Mlow (fun c hc => F1.2 c (by omega)) hM hE
  have C1 := F1.1
  rw [e0]
  refine q_Md_game M1 hVa (fun I2 F2 => ?_)
  obtain ⟨g1, g2⟩ := nv_gf hVa hV C1 D1 E1 F2
  exact ⟨rfl, K1 I2 g1 (g2.trans e0)⟩
theorem v_play (hv : nv I) (K1 : ∀ I', nv I' → I' 0 = I 0 → K I') : ny_C1 1300 m_No_play [.ref 5, .int (I 0 (i + 1))] Ln I (fun r I1 => ny_C1 1300 m_Md_play [.ref 102, .int (I1 0 (i + 1))] Ln I1 (fun r2 I2 => r = r2 ∧ K I2)) := by
  obtain ⟨a, b, kk, T, tb, n, r, s, hf, tr, hVa, hV, hC, hD, hM, hE⟩ := hv
  refine q_No_play hC hVa (fun I1 F1 => ?_)
  obtain ⟨D1, e0⟩ := nv_cp hV F1 hD
  obtain ⟨M1, E1⟩ := nv_Mlow (fun c hc => F1.2 c (by omega)) hM hE
  have C1 := F1.1
  rw [e0]
  refine q_Md_play M1 hVa (fun I2 F2 => ?_)
  obtain ⟨g1, g2⟩ := nv_gf hVa hV C1 D1 E1 F2
  exact ⟨rfl, K1 I2 g1 (g2.trans e0)⟩
theorem v_nymph (hv : nv I) (K1 : ∀ I', nv I' → I' 0 = I 0 → K I') : ny_C1 1300 m_No_nymph [.ref 5, .int (I 0 (i + 1))] Ln I (fun r I1 => ny_C1 1300 m_Md_nymph [.ref 102, .int (I1 0 (i + 1))] Ln I1 (fun r2 I2 => r = r2 ∧ K I2)) := by
  obtain ⟨a, b, kk, T, tb, n, r, s, hf, tr, hVa, hV, hC, hD, hM, hE⟩ := hv
  refine q_No_nymph hC hVa (fun I1 F1 => ?_)
  obtain ⟨D1, e0⟩ := nv_cf hV F1 hD
  obtain ⟨M1, E1⟩ := nv_Mlow (fun c hc => F1.2 c (by omega)) hM hE
  have C1 := F1.1
  rw [e0]
  refine q_Md_nymph M1 hVa (fun I2 F2 => ?_)
  obtain ⟨g1, g2⟩ := nv_ef hVa hV C1 D1 M1 E1 F2
  exact ⟨rfl, K1 I2 g1 (g2.trans e0)⟩
theorem v_liar (hv : nv I) (K1 : ∀ I', nv I' → I' 0 = I 0 → K I') : ny_C1 1300 m_No_liar [.ref 5] Ln I (fun r I1 => ny_C1 1300 m_Md_liar [.ref 102] Ln I1 (fun r2 I2 => r = r2 ∧ K I2)) := by
  obtain ⟨a, b, kk, T, tb, n, r, s, hf, tr, hVa, hV, hC, hD, hM, hE⟩ := hv
  refine q_No_liar hC hVa (fun I1 F1 => ?_)
  obtain ⟨D1, e0⟩ := nv_cf hV F1 hD
  obtain ⟨M1, E1⟩ := nv_Mlow (fun c hc => F1.2 c (by omega)) hM hE
  have C1 := F1.1
  refine q_Md_liar M1 hVa (fun I2 F2 => ?_)
  obtain ⟨g1, g2⟩ := nv_ef hVa hV C1 D1 M1 E1 F2
  exact ⟨rfl, K1 I2 g1 (g2.trans e0)⟩
theorem v_times (hv : nv I) (K1 : ∀ I', nv I' → I' 0 = I 0 → K I') : ny_C1 1300 m_No_times [.ref 5, .int (I 0 (i + 1)), .int (I 0 (i + 2))] Ln I (fun r I1 => ny_C1 1300 m_Md_times [.ref 102, .int (I1 0 (i + 1)), .int (I1 0 (i + 2))] Ln I1 (fun r2 I2 => r = r2 ∧ K I2)) := by
  obtain ⟨a, b, kk, T, tb, n, r, s, hf, tr, hVa, hV, hC, hD, hM, hE⟩ := hv
  refine q_No_times hC hVa (fun I1 F1 => ?_)
  obtain ⟨D1, e0⟩ := nv_cf hV F1 hD
  obtain ⟨M1, E1⟩ := nv_Mlow (fun c hc => F1.2 c (by omega)) hM hE
  have C1 := F1.1
  rw [e0]
  refine q_Md_times M1 hVa (fun I2 F2 => ?_)
  obtain ⟨g1, g2⟩ := nv_af hVa hV C1 D1 E1 F2
  exact ⟨rfl, K1 I2 g1 (g2.trans e0)⟩
theorem v_on (hv : nv I) (K1 : ∀ I', nv I' → I' 0 = I 0 → K I') : ny_C1 1300 m_No_on [.ref 5, .int (I 0 (i + 1))] Ln I (fun r I1 => ny_C1 1300 m_Md_on [.ref 102, .int (I1 0 (i + 1))] Ln I1 (fun r2 I2 => r = r2 ∧ K I2)) := by
  obtain ⟨a, b, kk, T, tb, n, r, s, hf, tr, hVa, hV, hC, hD, hM, hE⟩ := hv
  have v0 := hVa.1.1
  refine q_No_on hC.1 hC.2.1 hVa (fun m hm ex I1 F1 => ?_) (fun hno => ?_)
  · obtain ⟨C1, D1, e0⟩ := nv_fr hVa hV F1 hC hD
    obtain ⟨M1, E1⟩ := nv_Mlow (fun c hc => F1.1 c (by omega) (by omega) (by omega)) hM hE
    rw [e0]
    refine q_Md_on M1 hVa (fun m2 hm2 ex2 I2 F2 => ?_) (fun hno => absurd ex (hno m hm))
    have em : m = m2 := nI_ij (by omega) (by omega) (ex.symm.trans ex2)
    subst em
    obtain ⟨g1, g2⟩ := nv_af hVa hV C1 D1 E1 F2
    exact ⟨rfl, K1 I2 g1 (g2.trans e0)⟩
  · exact q_Md_on hM hVa (fun m2 hm2 ex2 _ _ => absurd ex2 (hno m2 hm2)) (fun _ => ⟨rfl, K1 I (nv_id hVa hV hC hD hM hE) rfl⟩)
theorem v_when (hv : nv I) (K1 : ∀ I', nv I' → I' 0 = I 0 → K I') : ny_C1 1300 m_No_when [.ref 5, .int (I 0 (i + 1))] Ln I (fun r I1 => ny_C1 1300 m_Md_when [.ref 102, .int (I1 0 (i + 1))] Ln I1 (fun r2 I2 => r = r2 ∧ K I2)) := by
  obtain ⟨a, b, kk, T, tb, n, r, s, hf, tr, hVa, hV, hC, hD, hM, hE⟩ := hv
  have v0 := hVa.1.1
  refine q_No_when hC.1 hC.2.1 hVa (fun m hm ex I1 F1 => ?_) (fun hno => ?_)
  · obtain ⟨C1, D1, e0⟩ := nv_fr hVa hV F1 hC hD
    obtain ⟨M1, E1⟩ := nv_Mlow (fun c hc => F1.1 c (by omega) (by omega) (by omega)) hM hE
    rw [e0]
    refine q_Md_when M1 hVa (fun m2 hm2 ex2 I2 F2 => ?_) (fun hno => absurd ex (hno m hm))
    have em : m = m2 := nI_ij (by omega) (by omega) (ex.symm.trans ex2)
    subst em
    obtain ⟨g1, g2⟩ := nv_af hVa hV C1 D1 E1 F2
    exact ⟨rfl, K1 I2 g1 (g2.trans e0)⟩
  · exact q_Md_when hM hVa (fun m2 hm2 ex2 _ _ => absurd ex2 (hno m2 hm2)) (fun _ => ⟨rfl, K1 I (nv_id hVa hV hC hD hM hE) rfl⟩)
theorem v_graceFor (hv : nv I) (K1 : ∀ I', nv I' → I' 0 = I 0 → K I') : ny_C1 1300 m_No_graceFor [.ref 5, .int (I 0 (i + 1))] Ln I (fun r I1 => ny_C1 1300 m_Md_graceFor [.ref 102, .int (I1 0 (i + 1))] Ln I1 (fun r2 I2 => r = r2 ∧ K I2)) := by
  obtain ⟨a, b, kk, T, tb, n, r, s, hf, tr, hVa, hV, hC, hD, hM, hE⟩ := hv
  have v0 := hVa.1.1
  refine q_No_graceFor hC.1 hC.2.1 hVa (fun m hm ex I1 F1 => ?_) (fun hno => ?_)
  · obtain ⟨C1, D1, e0⟩ := nv_fr hVa hV F1 hC hD
    obtain ⟨M1, E1⟩ := nv_Mlow (fun c hc => F1.1 c (by omega) (by omega) (by omega)) hM hE
    rw [e0]
    refine q_Md_graceFor M1 hVa (fun m2 hm2 ex2 I2 F2 => ?_) (fun hno => absurd ex (hno m hm))
    have em : m = m2 := nI_ij (by omega) (by omega) (ex.symm.trans ex2)
    subst em
    obtain ⟨g1, g2⟩ := nv_af hVa hV C1 D1 E1 F2
    exact ⟨rfl, K1 I2 g1 (g2.trans e0)⟩
  · exact q_Md_graceFor hM hVa (fun m2 hm2 ex2 _ _ => absurd ex2 (hno m2 hm2)) (fun _ => ⟨rfl, K1 I (nv_id hVa hV hC hD hM hE) rfl⟩)
theorem v_nicheFor (hv : nv I) (K1 : ∀ I', nv I' → I' 0 = I 0 → K I') : ny_C1 1300 m_No_nicheFor [.ref 5, .int (I 0 (i + 1))] Ln I (fun r I1 => ny_C1 1300 m_Md_nicheFor [.ref 102, .int (I1 0 (i + 1))] Ln I1 (fun r2 I2 => r = r2 ∧ K I2)) := by
  obtain ⟨a, b, kk, T, tb, n, r, s, hf, tr, hVa, hV, hC, hD, hM, hE⟩ := hv
  have v0 := hVa.1.1
  refine q_No_nicheFor hC.1 hC.2.1 hVa (fun m hm ex I1 F1 => ?_) (fun hno => ?_)
  · obtain ⟨C1, D1, e0⟩ := nv_fr hVa hV F1 hC hD
    obtain ⟨M1, E1⟩ := nv_Mlow (fun c hc => F1.1 c (by omega) (by omega) (by omega)) hM hE
    rw [e0]
    refine q_Md_nicheFor M1 hVa (fun m2 hm2 ex2 I2 F2 => ?_) (fun hno => absurd ex (hno m hm))
    have em : m = m2 := nI_ij (by omega) (by omega) (ex.symm.trans ex2)
    subst em
    obtain ⟨g1, g2⟩ := nv_af hVa hV C1 D1 E1 F2
    exact ⟨rfl, K1 I2 g1 (g2.trans e0)⟩
  · exact q_Md_nicheFor hM hVa (fun m2 hm2 ex2 _ _ => absurd ex2 (hno m2 hm2)) (fun _ => ⟨rfl, K1 I (nv_id hVa hV hC hD hM hE) rfl⟩)
theorem v_faints (hv : nv I) (K1 : ∀ I', nv I' → I' 0 = I 0 → K I') : ny_C1 1300 m_No_faints [.ref 5, .int (I 0 (i + 1))] Ln I (fun r I1 => ny_C1 1300 m_Md_faints [.ref 102, .int (I1 0 (i + 1))] Ln I1 (fun r2 I2 => r = r2 ∧ K I2)) := by
  obtain ⟨a, b, kk, T, tb, n, r, s, hf, tr, hVa, hV, hC, hD, hM, hE⟩ := hv
  have v0 := hVa.1.1
  refine q_No_faints hC.1 hC.2.1 hVa (fun m hm ex I1 F1 => ?_) (fun hno => ?_)
  · obtain ⟨C1, D1, e0⟩ := nv_fr hVa hV F1 hC hD
    obtain ⟨M1, E1⟩ := nv_Mlow (fun c hc => F1.1 c (by omega) (by omega) (by omega)) hM hE
    rw [e0]
    refine q_Md_faints M1 hVa (fun m2 hm2 ex2 I2 F2 => ?_) (fun hno => absurd ex (hno m hm))
    have em : m = m2 := nI_ij (by omega) (by omega) (ex.symm.trans ex2)
    subst em
    obtain ⟨g1, g2⟩ := nv_af hVa hV C1 D1 E1 F2
    exact ⟨rfl, K1 I2 g1 (g2.trans e0)⟩
  · exact q_Md_faints hM hVa (fun m2 hm2 ex2 _ _ => absurd ex2 (hno m2 hm2)) (fun _ => ⟨rfl, K1 I (nv_id hVa hV hC hD hM hE) rfl⟩)
theorem v_rank (hv : nv I) (K1 : ∀ I', nv I' → I' 0 = I 0 → K I') : ny_C1 1300 m_No_rank [.ref 5, .int (I 0 (i + 1))] Ln I (fun r I1 => ny_C1 1300 m_Md_rank [.ref 102, .int (I1 0 (i + 1))] Ln I1 (fun r2 I2 => r = r2 ∧ K I2)) := by
  obtain ⟨a, b, kk, T, tb, n, r, s, hf, tr, hVa, hV, hC, hD, hM, hE⟩ := hv
  have v0 := hVa.1.1
  refine q_No_rank hC.1 hC.2.1 hVa (fun m hm ex => ?_) (fun hno => ?_)
  · refine q_Md_rank hM hVa (fun m2 hm2 ex2 => ?_) (fun hno => absurd ex (hno m hm))
    have em : m = m2 := nI_ij (by omega) (by omega) (ex.symm.trans ex2)
    subst em
    exact ⟨rfl, K1 I (nv_id hVa hV hC hD hM hE) rfl⟩
  · exact q_Md_rank hM hVa (fun m2 hm2 ex2 => absurd ex2 (hno m2 hm2)) (fun _ => ⟨rfl, K1 I (nv_id hVa hV hC hD hM hE) rfl⟩)
theorem v_row (hv : nv I) (K1 : ∀ I', nv I' → I' 0 = I 0 → K I') : ny_C1 1300 m_No_row [.ref 5, .int (I 0 (i + 1)), .int (I 0 (i + 2))] Ln I (fun r I1 => ny_C1 1300 m_Md_row [.ref 102, .int (I1 0 (i + 1)), .int (I1 0 (i + 2))] Ln I1 (fun r2 I2 => r = r2 ∧ K I2)) := by
  obtain ⟨a, b, kk, T, tb, n, r, s, hf, tr, hVa, hV, hC, hD, hM, hE⟩ := hv
  obtain ⟨d1, d2, d3, d4, d5, d6, d7⟩ := id hD
  obtain ⟨x1, x2, x3, x4, x5, x6⟩ := id hE
  obtain ⟨w1, w2, w3, w4, w5, w6⟩ := id hV
  exact q_No_row d3 w4 (q_Md_row x3 w4 ⟨rfl, K1 I (nv_id hVa hV hC hD hM hE) rfl⟩)
theorem v_item (hv : nv I) (K1 : ∀ I', nv I' → I' 0 = I 0 → K I') : ny_C1 1300 m_No_item [.ref 5, .int (I 0 (i + 1)), .int (I 0 (i + 2)), .int (I 0 (i + 3))] Ln I (fun r I1 => ny_C1 1300 m_Md_item [.ref 102, .int (I1 0 (i + 1)), .int (I1 0 (i + 2)), .int (I1 0 (i + 3))] Ln I1 (fun r2 I2 => r = r2 ∧ K I2)) := by
  obtain ⟨a, b, kk, T, tb, n, r, s, hf, tr, hVa, hV, hC, hD, hM, hE⟩ := hv
  obtain ⟨d1, d2, d3, d4, d5, d6, d7⟩ := id hD
  obtain ⟨x1, x2, x3, x4, x5, x6⟩ := id hE
  obtain ⟨w1, w2, w3, w4, w5, w6⟩ := id hV
  exact q_No_item d4 w5 (q_Md_item x4 w5 ⟨rfl, K1 I (nv_id hVa hV hC hD hM hE) rfl⟩)
theorem v_taken (hv : nv I) (K1 : ∀ I', nv I' → I' 0 = I 0 → K I') : ny_C1 1300 m_No_taken [.ref 5, .int (I 0 (i + 1)), .int (I 0 (i + 2))] Ln I (fun r I1 => ny_C1 1300 m_Md_taken [.ref 102, .int (I1 0 (i + 1)), .int (I1 0 (i + 2))] Ln I1 (fun r2 I2 => r = r2 ∧ K I2)) := by
  obtain ⟨a, b, kk, T, tb, n, r, s, hf, tr, hVa, hV, hC, hD, hM, hE⟩ := hv
  obtain ⟨d1, d2, d3, d4, d5, d6, d7⟩ := id hD
  obtain ⟨x1, x2, x3, x4, x5, x6⟩ := id hE
  obtain ⟨w1, w2, w3, w4, w5, w6⟩ := id hV
  exact q_No_taken hC hVa d5 w6 (q_Md_taken hM hVa x5 w6 ⟨rfl, K1 I (nv_id hVa hV hC hD hM hE) rfl⟩)
theorem v_trace (hv : nv I) (K1 : ∀ I', nv I' → I' 0 = I 0 → K I') : ny_C1 1300 m_No_trace [.ref 5, .int (I 0 (i + 1))] Ln I (fun r I1 => ny_C1 1300 m_Md_trace [.ref 102, .int (I1 0 (i + 1))] Ln I1 (fun r2 I2 => r = r2 ∧ K I2)) := by
  obtain ⟨a, b, kk, T, tb, n, r, s, hf, tr, hVa, hV, hC, hD, hM, hE⟩ := hv
  obtain ⟨d1, d2, d3, d4, d5, d6, d7⟩ := id hD
  obtain ⟨x1, x2, x3, x4, x5, x6⟩ := id hE
  obtain ⟨w1, w2, w3, w4, w5, w6⟩ := id hV
  exact q_No_trace d6 (q_Md_trace x6 ⟨rfl, K1 I (nv_id hVa hV hC hD hM hE) rfl⟩)
theorem v_many (hv : nv I) (K1 : ∀ I', nv I' → I' 0 = I 0 → K I') : ny_C1 1300 m_No_many [.ref 5, .int (I 0 (i + 1))] Ln I (fun r I1 => ny_C1 1300 m_Md_many [.ref 102, .int (I1 0 (i + 1))] Ln I1 (fun r2 I2 => r = r2 ∧ K I2)) := by
  obtain ⟨a, b, kk, T, tb, n, r, s, hf, tr, hVa, hV, hC, hD, hM, hE⟩ := hv
  obtain ⟨d1, d2, d3, d4, d5, d6, d7⟩ := id hD
  obtain ⟨x1, x2, x3, x4, x5, x6⟩ := id hE
  obtain ⟨w1, w2, w3, w4, w5, w6⟩ := id hV
  exact q_No_many hC hVa d3 d2.1 d6 (q_Md_many hM hVa x3 x2.1 x6 ⟨rfl, K1 I (nv_id hVa hV hC hD hM hE) rfl⟩)
theorem v_judge (hv : nv I) (K1 : ∀ I', nv I' → I' 0 = I 0 → K I') : ny_C1 1300 m_No_judge [.ref 5] Ln I (fun r I1 => ny_C1 1300 m_Md_judge [.ref 102] Ln I1 (fun r2 I2 => r = r2 ∧ K I2)) := by
  obtain ⟨a, b, kk, T, tb, n, r, s, hf, tr, hVa, hV, hC, hD, hM, hE⟩ := hv
  obtain ⟨d1, d2, d3, d4, d5, d6, d7⟩ := id hD
  obtain ⟨x1, x2, x3, x4, x5, x6⟩ := id hE
  obtain ⟨w1, w2, w3, w4, w5, w6⟩ := id hV
  refine q_No_judge hC hVa d3 w4 (fun I1 F1 => ?_)
  obtain ⟨D1, e0⟩ := nv_cf hV F1 hD
  obtain ⟨M1, E1⟩ := nv_Mlow (fun c hc => F1.2 c (by omega)) hM hE
  have C1 := F1.1
  refine q_Md_judge M1 hVa E1.2.2.1 w4 (fun I2 F2 => ?_)
  obtain ⟨g1, g2⟩ := nv_af hVa hV C1 D1 E1 F2
  exact ⟨rfl, K1 I2 g1 (g2.trans e0)⟩
theorem v_wouldBe (hv : nv I) (K1 : ∀ I', nv I' → I' 0 = I 0 → K I') : ny_C1 1300 m_No_wouldBe [.ref 5, .int (I 0 (i + 1)), .int (I 0 (i + 2)), .int (I 0 (i + 3))] Ln I (fun r I1 => ny_C1 1300 m_Md_wouldBe [.ref 102, .int (I1 0 (i + 1)), .int (I1 0 (i + 2)), .int (I1 0 (i + 3))] Ln I1 (fun r2 I2 => r = r2 ∧ K I2)) := by
  obtain ⟨a, b, kk, T, tb, n, r, s, hf, tr, hVa, hV, hC, hD, hM, hE⟩ := hv
  obtain ⟨d1, d2, d3, d4, d5, d6, d7⟩ := id hD
  obtain ⟨x1, x2, x3, x4, x5, x6⟩ := id hE
  obtain ⟨w1, w2, w3, w4, w5, w6⟩ := id hV
  refine q_No_wouldBe hC hVa d4 w5 (fun I1 F1 => ?_)
  obtain ⟨D1, e0⟩ := nv_cf hV F1 hD
  obtain ⟨M1, E1⟩ := nv_Mlow (fun c hc => F1.2 c (by omega)) hM hE
  have C1 := F1.1
  rw [e0]
  refine q_Md_wouldBe M1 hVa E1.2.2.2.1 w5 (fun I2 F2 => ?_)
  obtain ⟨g1, g2⟩ := nv_af hVa hV C1 D1 E1 F2
  exact ⟨rfl, K1 I2 g1 (g2.trans e0)⟩
theorem v_goAll (hv : nv I) (K1 : ∀ I', nv I' → I' 0 = I 0 → K I') : ny_C1 1300 m_No_goAll [.ref 5, .int (I 0 (i + 1)), .int (I 0 (i + 2)), .int (I 0 (i + 3))] Ln I (fun r I1 => ny_C1 1300 m_Md_goAll [.ref 102, .int (I1 0 (i + 1)), .int (I1 0 (i + 2)), .int (I1 0 (i + 3))] Ln I1 (fun r2 I2 => r = r2 ∧ K I2)) := by
  obtain ⟨a, b, kk, T, tb, n, r, s, hf, tr, hVa, hV, hC, hD, hM, hE⟩ := hv
  obtain ⟨d1, d2, d3, d4, d5, d6, d7⟩ := id hD
  obtain ⟨x1, x2, x3, x4, x5, x6⟩ := id hE
  obtain ⟨w1, w2, w3, w4, w5, w6⟩ := id hV
  refine q_No_goAll hC hVa d4 w5 (fun I1 F1 => ?_)
  obtain ⟨D1, e0⟩ := nv_cf hV F1 hD
  obtain ⟨M1, E1⟩ := nv_Mlow (fun c hc => F1.2 c (by omega)) hM hE
  have C1 := F1.1
  rw [e0]
  refine q_Md_goAll M1 hVa E1.2.2.2.1 w5 (fun I2 M2 V2 F2 => ?_)
  exact ⟨rfl, K1 I2 (nv_mstep V2 hV C1 D1 M2 (nv_Emv (fun j _ => by rw [F2 102 (by decide)]) (fun c x => F2 c (by omega)) E1) (fun c hc => F2 c (by omega))) ((F2 0 (by decide)).trans e0)⟩
end NVO
