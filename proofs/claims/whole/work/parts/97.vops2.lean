/-! the calls that are left -/
def nt_qF2 (I' I : ny_I) : Prop := (∀ c, c ≠ 102 → c ≠ 103 → c ≠ 107 → I' c = I c) ∧ ∀ j, j < 5 ∨ 11 < j → I' 102 j = I 102 j
section NVR
variable {d Ln : Nat} {I : ny_I} {Q : Int32 → ny_I → Prop} {Q0 : ny_I → Prop} {T : Nat} {b : Nat → Nat} {p : Nat} {a : ny_a}
theorem q_Md_rules2 (hM : nt_M I T b) (hV : nt_V T b) (hD : ny_Md I a) (hVa : ny_V a) (h : ∀ I', nt_qF2 I' I → ny_Md I' (o_rules T b a).2 → nt_M I' 0 b → Q (o_rules T b a).1 I') : ny_C1 (d + 18) m_Md_rules [.ref 102] Ln I Q := by
  have hT := hV.1
  refine s_Md_rules_0 ?_
  have cp : ∀ m k (I1 : ny_I), k + m = 572 → (∀ c, c ≠ 107 → I1 c = I c) → (∀ j, j < k → I1 107 j = nI (a j)) → (∀ I2 : ny_I, (∀ c, c ≠ 107 → I2 c = I c) → (∀ j, j < 572 → I2 107 j = nI (a j)) → ny_C0 (d + 17) m_Md_nextToken [.ref 102] Ln (ny_up (ny_up (ny_up (ny_up I2 103 5 0) 103 7 0) 102 8 0) 102 10 0) (fun I1 => ny_g (d + 18) m_Md_rules 56 [(0, .ref 102)] [] Ln I1 (ny_r1 Ln Q))) → ny_g (d + 18) m_Md_rules 2 [(0, .ref 102), (1, .int (nI k))] [] Ln I1 (ny_r1 Ln Q) := by
    intro m
    induction m with
    | zero =>
      intro k I1 hk h1 h2 H
      refine s_Md_rules_2 ⟨fun _ => ⟨by decide, by decide, H I1 h1 fun j hj => h2 j (by omega)⟩, fun c => ?_⟩
      have : (572 : Int32) ≤ nI k := (ny_le (a := 572) (by decide) (by omega)).mpr (by omega)
      exact absurd this c
    | succ m ih =>
      intro k I1 hk h1 h2 H
      have e : (572 : Int32) ≤ nI k ↔ 572 ≤ k := ny_le (a := 572) (by decide) (by omega)
      refine s_Md_rules_2 ?_
      rw [e, nI_clamp (by omega), nI_1]
      refine ⟨fun c => absurd c (by omega), fun _ => ⟨ny_inN (by omega) (by decide), ny_inN (by omega) (by decide), ih (k + 1) _ (by omega) (fun c hc => ?_) (fun j hj => ?_) H⟩⟩
      · rw [ny_upne _ hc]; exact h1 c hc
      · rw [ny_uprd]
        by_cases ej : j = k
        · rw [if_pos ⟨rfl, ej⟩, h1 103 (by decide), ej]; exact hD k
        · rw [if_neg (fun q => ej q.2)]; exact h2 j (by omega)
  refine cp 572 0 I (by omega) (fun _ _ => rfl) (fun j hj => absurd hj (by omega)) fun I2 h2 h7 => ?_
  have D2 : ny_Md (ny_up (ny_up (ny_up (ny_up I2 103 5 0) 103 7 0) 102 8 0) 102 10 0) (nt_az a) := by
    intro j
    rw [ny_upne _ (by decide), ny_upne _ (by decide), ny_uprd, ny_uprd]
    by_cases j7 : j = 7
    · rw [if_pos ⟨rfl, j7⟩, j7]; rfl
    · rw [if_neg (fun q => j7 q.2)]
      by_cases j5 : j = 5
      · rw [if_pos ⟨rfl, j5⟩, j5]; rfl
      · rw [if_neg (fun q => j5 q.2), nt_az_o j5 j7, h2 103 (by decide)]; exact hD j
  have u102 : ∀ j, j ≠ 8 → j ≠ 10 → ny_up (ny_up (ny_up (ny_up I2 103 5 0) 103 7 0) 102 8 0) 102 10 0 102 j = I 102 j := fun j x y => by
    rw [ny_uprd, if_neg (by omega), ny_uprd, if_neg (by omega), ny_upne _ (by decide), ny_upne _ (by decide), h2 102 (by decide)]
  have uc : ∀ c, c ≠ 102 → c ≠ 103 → ny_up (ny_up (ny_up (ny_up I2 103 5 0) 103 7 0) 102 8 0) 102 10 0 c = I2 c := fun c x y => by
    rw [ny_upne _ x, ny_upne _ x, ny_upne _ y, ny_upne _ y]
  have M2 : nt_M (ny_up (ny_up (ny_up (ny_up I2 103 5 0) 103 7 0) 102 8 0) 102 10 0) T b := ⟨by rw [u102 5 (by decide) (by decide)]; exact hM.1, fun j hj => by rw [uc 106 (by decide) (by decide), h2 106 (by decide)]; exact hM.2 j hj⟩
  have e8 : ny_up (ny_up (ny_up (ny_up I2 103 5 0) 103 7 0) 102 8 0) 102 10 0 102 8 = nI 0 := by rw [ny_uprd, if_neg (by omega), ny_uprd, if_pos ⟨rfl, rfl⟩]; rfl
  have e10 : ny_up (ny_up (ny_up (ny_up I2 103 5 0) 103 7 0) 102 8 0) 102 10 0 102 10 = nI 0 := by rw [ny_uprd, if_pos ⟨rfl, rfl⟩]; rfl
  have u3 : ∀ j, 572 ≤ j → ny_up (ny_up (ny_up (ny_up I2 103 5 0) 103 7 0) 102 8 0) 102 10 0 103 j = nI (a j) := fun j hj => by
    rw [ny_upne _ (by decide), ny_upne _ (by decide), ny_uprd, if_neg (by omega), ny_uprd, if_neg (by omega), h2 103 (by decide)]; exact hD j
  refine q_Md_nextToken M2 hV (by omega) e8 fun I3 F3 t3 => ?_
  have hsk := (nt_sk_p (T := T) (b := b) 0).2.1 (by omega)
  have ho := o_rules_V (b := b) (a := a) hT hVa
  unfold o_rules at h ho
  refine q_Md_rl (I := ny_up (ny_up (ny_up (ny_up I2 103 5 0) 103 7 0) 102 8 0) 102 10 0) hV 8 (nt_sk T b 0) (nt_az a) I3 (nt_oF_n (nt_nF_m F3)) (nt_M_F F3 M2) t3 (by rw [F3.2 10 (by decide) (by decide) (by decide) (by decide)]; exact e10) (nt_Md_n (nt_nF_m F3) D2) (nt_az_I hVa hsk) rfl (fun q e I4 F4 f4 w4 => ?_) fun q a' e I4 F4 w4 D4 => ?_
  · rw [e] at h
    have back : ∀ m k (I1 : ny_I), k + m = 572 → (∀ c, c ≠ 103 → I1 c = ny_up I4 102 5 0 c) → (∀ j, j < k → I1 103 j = nI (a j)) → (∀ j, 572 ≤ j → I1 103 j = nI (a j)) → ny_g (d + 18) m_Md_rules 84 [(0, .ref 102), (1, .int (nI k))] [] Ln I1 (ny_r1 Ln Q) := by
      intro m
      have g10 : ∀ I1 : ny_I, (∀ c, c ≠ 103 → I1 c = ny_up I4 102 5 0 c) → I1 102 10 = nI 1 ∧ I1 102 7 = nI q := fun I1 h1 => by
        rw [h1 102 (by decide), ny_uprd, if_neg (by omega), ny_uprd, if_neg (by omega)]; exact ⟨w4, f4⟩
      induction m with
      | zero =>
        intro k I1 hk h1 h3 h4
        have : (572 : Int32) ≤ nI k := (ny_le (a := 572) (by decide) (by omega)).mpr (by omega)
        refine s_Md_rules_84 ⟨fun _ => ⟨fun c => ?_, fun _ => ?_⟩, fun c => absurd this c⟩
        · rw [(g10 I1 h1).1] at c; exact absurd c nt_n1
        · rw [(g10 I1 h1).2]
          refine h I1 ⟨fun c x y z => ?_, fun j hj => ?_⟩ (fun j => ?_) ⟨?_, fun j hj => absurd hj (by omega)⟩
          · rw [h1 c y, ny_upne _ x, F4.1.1 c x y, uc c x y, h2 c z]
          · rw [h1 102 (by decide), ny_uprd, if_neg (by omega), F4.2 j (by omega) (by omega) (by omega) (by omega) (by omega) (by omega), u102 j (by omega) (by omega)]
          · rcases Nat.lt_or_ge j 572 with z | z
            · exact h3 j (by omega)
            · exact h4 j z
          · rw [h1 102 (by decide), ny_uprd, if_pos ⟨rfl, rfl⟩]; rfl
      | succ m ih =>
        intro k I1 hk h1 h3 h4
        have e5 : (572 : Int32) ≤ nI k ↔ 572 ≤ k := ny_le (a := 572) (by decide) (by omega)
        have w : ¬ I1 102 10 = 0 := by rw [(g10 I1 h1).1]; decide
        refine s_Md_rules_84 ?_
        rw [e5, nI_clamp (by omega), nI_1]
        refine ⟨fun c => absurd c (by omega), fun _ => ⟨fun c => absurd c w, fun _ => ⟨ny_inN (by omega) (by decide), ny_inN (by omega) (by decide), ih (k + 1) _ (by omega) (fun c hc => ?_) (fun j hj => ?_) fun j hj => ?_⟩⟩⟩
        · rw [ny_upne _ hc]; exact h1 c hc
        · rw [ny_uprd]
          by_cases ej : j = k
          · rw [if_pos ⟨rfl, ej⟩, h1 107 (by decide), ny_upne _ (by decide), F4.1.1 107 (by decide) (by decide), uc 107 (by decide) (by decide), ej]
            exact h7 k (by omega)
          · rw [if_neg (fun q => ej q.2)]; exact h3 j (by omega)
        · rw [ny_uprd, if_neg (by omega)]; exact h4 j hj
    refine back 572 0 _ (by omega) (fun _ _ => rfl) (fun j hj => absurd hj (by omega)) fun j hj => ?_
    rw [ny_upne _ (by decide), F4.1.2 j hj]; exact u3 j hj
  · rw [e] at h
    have w5 : ny_up I4 102 5 0 102 10 = 0 := by rw [ny_uprd, if_neg (by omega)]; exact w4
    have D5 : ny_Md (ny_up I4 102 5 0) a' := fun j => by rw [ny_upne _ (by decide)]; exact D4 j
    have c5 : Int32.toNatClampNeg 5 = 5 := rfl
    refine s_Md_rules_84 ⟨fun c => absurd c (by decide), fun _ => ⟨fun _ => ⟨fun _ => ⟨by decide, ?_⟩, fun c => absurd w5 c⟩, fun c => absurd w5 c⟩⟩
    rw [c5, D5 5]
    refine h _ ⟨fun c x y z => ?_, fun j hj => ?_⟩ D5 ⟨?_, fun j hj => absurd hj (by omega)⟩
    · rw [ny_upne _ x, F4.1.1 c x y, uc c x y, h2 c z]
    · rw [ny_uprd, if_neg (by omega), F4.2 j (by omega) (by omega) (by omega) (by omega) (by omega) (by omega), u102 j (by omega) (by omega)]
    · rw [ny_uprd, if_pos ⟨rfl, rfl⟩]; rfl
end NVR
section NVS
variable {I I' : ny_I} {a b b' : ny_a} {k T T' : Nat} {tb tb' : Nat → Nat} {n n' : Nat} {r r' : nz_rw} {s s' : nz_sh} {hf hf' : nz_hf} {tr tr' : nz_tr}
theorem nv_bV (h : ∀ j, j < 572 → b' j = b j) (hV : ny_V b) : ny_V b' := by
  obtain ⟨⟨v0, v1, v2, v3, v5, v6, v7⟩, V2, V3, V4, V5, V6, V7, V8⟩ := hV
  have e0 := h 0 (by omega)
  have e5 := h 5 (by omega)
  have e6 := h 6 (by omega)
  have e7 := h 7 (by omega)
  refine ⟨⟨by omega, by rw [h 1 (by omega), h 2 (by omega)]; exact v1, by rw [h 2 (by omega)]; exact v2, by rw [h 2 (by omega)]; exact v3, by omega, by omega, by omega⟩, fun q hq => ?_, fun q hq => ?_, fun f hf => ?_, fun w hw => ?_, fun q hq => ?_, fun q hq => ?_, fun q hq => ?_⟩
  · rw [h _ (by omega), h _ (by omega), h _ (by omega), h _ (by omega), h _ (by omega)]; exact V2 q hq
  · rw [h _ (by omega)]; exact V3 q (by omega)
  · rw [h _ (by omega), h _ (by omega)]; exact V4 f hf
  · rw [h _ (by omega)]; exact V5 w hw
  · obtain ⟨w1, w2, w3, w4, w5, w6⟩ := V6 q (by omega)
    rw [h (66 + 4 * q) (by omega), h (67 + 4 * q) (by omega), h (68 + 4 * q) (by omega), h (69 + 4 * q) (by omega), h (65 + 4 * q) (by omega), e7]
    exact ⟨w1, w2, w3, w4, w5, fun j hj => by rw [nt_dp_c (a := b) j fun i hi => h _ (by omega)]; exact w6 j hj⟩
  · rw [h _ (by omega), h _ (by omega), h _ (by omega), h _ (by omega)]; exact V7 q (by omega)
  · rw [h _ (by omega), h _ (by omega), h _ (by omega)]; exact V8 q (by omega)
theorem nv_bCl (h : ∀ j, j < 572 → b' j = b j) (hV : ny_V b) (hC : ny_Cl I b) : ny_Cl I b' := by
  obtain ⟨⟨v0, v1, v2, v3, v5, v6, v7⟩, V2, V3, V4, V5, V6, V7, V8⟩ := hV
  obtain ⟨⟨⟨c1, c2⟩, c3, c4, c5, ⟨c6, c7⟩, c8, c9, c10⟩, ⟨m1, m2, m, m3, m4, m5⟩, ⟨s1, s2⟩, w1, w2⟩ := hC
  have e0 := h 0 (by omega)
  have e5 := h 5 (by omega)
  have e6 := h 6 (by omega)
  have e7 := h 7 (by omega)
  refine ⟨⟨⟨?_, ?_⟩, fun k hk => ?_, fun f hf => ?_, fun q hq => ?_, ⟨?_, ?_⟩, fun q hq => ?_, fun q hq => ?_, c10⟩, ⟨?_, fun k hk => ?_, m, m3, m4, fun k hk => ?_⟩, ⟨?_, ?_⟩, ?_, fun q hq => ?_⟩
  · rw [e0]; exact c1
  · rw [h 2 (by omega)]; exact c2
  · rw [h _ (by omega), h _ (by omega), h _ (by omega)]; exact c3 k (by omega)
  · rw [h _ (by omega), h _ (by omega)]; exact c4 f hf
  · rw [h _ (by omega)]; exact c5 q hq
  · rw [e5]; exact c6
  · rw [e7]; exact c7
  · rw [h _ (by omega), h _ (by omega), h _ (by omega)]; exact c8 q (by omega)
  · rw [h (122 + 3 * q) (by omega), h (123 + 3 * q) (by omega), h (124 + 3 * q) (by omega)]; exact c9 q (by omega)
  · rw [h 1 (by omega)]; exact m1
  · rw [h _ (by omega)]; exact m2 k (by omega)
  · rw [e0, h (12 + 5 * k) (by omega)]; exact m5 k hk
  · rw [h 3 (by omega)]; exact s1
  · rw [h 4 (by omega)]; exact s2
  · rw [e6]; exact w1
  · rw [h _ (by omega), h _ (by omega), h _ (by omega), h _ (by omega)]; exact w2 q (by omega)
theorem nv_Clq (hV : ny_V a) (h : ∀ c, c = 1 ∨ (6 ≤ c ∧ c ≤ 27) → I' c = I c) (hC : ny_Cl I a) : ny_Cl I' a := nz_Cl_k hV (h 1 (by omega)) (fun q j hr => by rw [h q (by unfold nz_rq at hr; omega)]) hC
theorem o_sheet_V (hS : nz_SV s) (x y z : Int32) : nz_SV (o_sheet x y z s).2 := by
  unfold o_sheet
  split
  · exact hS
  · split
    · exact nz_ss_V hS (by decide) (by decide)
    · split
      · exact hS
      · rename_i t h1 _ w h2
        have b2 := nz_in_i (by decide) (by decide) h2
        split
        · exact hS
        · split
          · exact hS
          · rename_i n1 n2
            refine nz_ss_V hS (by omega) ?_
            have h40 : z ≤ nI 40 := Int32.not_lt.mp n1
            have h0 : (0 : Int32) ≤ z := Int32.not_lt.mp n2
            have e : z.toInt ≤ 40 := Int32.le_iff_toInt_le.mp h40
            have e0 : 0 ≤ z.toInt := Int32.le_iff_toInt_le.mp h0
            show z.toInt.toNat ≤ 40
            omega
theorem o_write_V (hS : nz_SV s) (x y z : Int32) : nz_SV (o_write x y z s).2 := by
  unfold o_write
  split
  · exact hS
  · split
    · exact hS
    · split
      · exact hS
      · exact hS
theorem o_shelf_V (hVa : ny_V a) (hS : nz_SV s) (hH : nz_HV hf) (x y z : Int32) : nz_HV (o_shelf x y z s a hf).2 := by
  unfold o_shelf
  split
  · split
    · split
      · rename_i k hk
        have := nz_fg_i hVa.1.1 hk
        have := hVa.1.1
        exact nz_hs_V hH (by decide) (fun _ => by omega) (fun q => absurd q (by decide))
      · exact hH
    · split
      · split
        · rename_i q hq
          have b1 := nz_in_i (by decide) (by decide) hq
          have := hS q (by omega)
          show nz_HV (if s.1 q = 5 then _ else _)
          split
          · exact nz_hs_V hH (by decide) (fun q => absurd q (by decide)) (fun q => absurd q (by decide))
          · exact nz_hs_V hH (by decide) (fun q => absurd q (by decide)) (fun _ => ⟨by omega, this.2⟩)
        · exact hH
      · exact nz_hs_V hH (by decide) (fun q => absurd q (by decide)) (fun q => absurd q (by decide))
  · exact hH
theorem o_feed_V (hT : nt_V T tb) (e : Int64) (x : Int32) : nt_V (o_feed e x T tb).2.1 (o_feed e x T tb).2.2 := by
  unfold o_feed
  split
  · exact hT
  · split
    · exact hT
    · exact nt_ad_V hT (by omega)
theorem o_prove_V (hn : n ≤ 4) (x : Int32) : (o_prove x n r a).2.1 ≤ 4 := by
  unfold o_prove
  split
  · rename_i m hm
    have := nz_in_i (by decide) (by decide) hm
    show min m _ ≤ 4
    omega
  · exact hn
end NVS
section NVP
variable {i Ln : Nat} {I : ny_I} {K : ny_I → Prop}
theorem v_feed (hv : nv I) (K1 : ∀ I', nv I' → I' 0 = I 0 → K I') : ny_C1 1300 m_No_feed [.ref 5, .long (ny_lg2 (I 0 (i + 1)) (I 0 (i + 2))), .int (I 0 (i + 3))] Ln I (fun r I1 => ny_C1 1300 m_Md_feed [.ref 102, .long (ny_lg2 (I1 0 (i + 1)) (I1 0 (i + 2))), .int (I1 0 (i + 3))] Ln I1 (fun r2 I2 => r = r2 ∧ K I2)) := by
  obtain ⟨a, b, kk, T, tb, n, r, s, hf, tr, hVa, hV, hC, hD, hM, hE⟩ := hv
  obtain ⟨d1, d2, d3, d4, d5, d6, d7⟩ := id hD
  obtain ⟨x1, x2, x3, x4, x5, x6⟩ := id hE
  obtain ⟨w1, w2, w3, w4, w5, w6⟩ := id hV
  refine q_No_feed d2 w3 (fun I1 F1 c' => ?_)
  have C1 : ny_Cl I1 a := nv_Clq hVa (fun c hc => F1 c (by omega) (by omega)) hC
  have D1 : nv_D I1 b kk (o_feed (ny_lg2 (I 0 (i + 1)) (I 0 (i + 2))) (I 0 (i + 3)) T tb).2.1 (o_feed (ny_lg2 (I 0 (i + 1)) (I 0 (i + 2))) (I 0 (i + 3)) T tb).2.2 n r s hf tr := ⟨nv_Kmv w1 (F1 1 (by omega) (by omega)) (by rw [F1 5 (by omega) (by omega)]) (fun c x y => F1 c (by omega) (by omega)) d1, c', nv_Rmv (by rw [F1 5 (by omega) (by omega)]) w4 (fun c x y => F1 c (by omega) (by omega)) d3, nv_Smv (fun c x y => F1 c (by omega) (by omega)) d4, nv_Hmv (fun c x y => F1 c (by omega) (by omega)) d5, nv_Qmv (F1 88 (by omega) (by omega)) (F1 89 (by omega) (by omega)) d6, nv_Xmv (F1 2 (by omega) (by omega)) (F1 3 (by omega) (by omega)) d7⟩
  obtain ⟨M1, E1⟩ := nv_Mlow (fun c hc => F1 c (by omega) (by omega)) hM hE
  obtain ⟨x1, x2, x3, x4, x5, x6⟩ := id E1
  have e0 : I1 0 = I 0 := F1 0 (by omega) (by omega)
  rw [e0]
  refine q_Md_feed x2 w3 (fun I2 F2 F2b m' => ?_)
  have vv : nv_V b kk (o_feed (ny_lg2 (I 0 (i + 1)) (I 0 (i + 2))) (I 0 (i + 3)) T tb).2.1 (o_feed (ny_lg2 (I 0 (i + 1)) (I 0 (i + 2))) (I 0 (i + 3)) T tb).2.2 n s hf := ⟨w1, w2, o_feed_V w3 _ _, w4, w5, w6⟩
  have va : ny_V a := hVa
  obtain ⟨g1, g2⟩ := nv_Chigh va vv (fun c hc => F2 c (by omega) (by omega)) C1 D1
  have MM : ny_Md I2 a := fun j => by rw [F2 103 (by omega) (by omega)]; exact M1 j
  have EE : nv_E I2 b kk (o_feed (ny_lg2 (I 0 (i + 1)) (I 0 (i + 2))) (I 0 (i + 3)) T tb).2.1 (o_feed (ny_lg2 (I 0 (i + 1)) (I 0 (i + 2))) (I 0 (i + 3)) T tb).2.2 n r s hf tr := ⟨⟨(F2b 2 (by omega)).trans x1.1, fun q => by rw [F2 104 (by omega) (by omega)]; exact x1.2 q⟩, m', ⟨(F2b 27 (by omega)).trans x3.1, by rw [F2 112 (by omega) (by omega)]; exact x3.2⟩, (by unfold ny_SM; rw [F2 113 (by omega) (by omega), F2 114 (by omega) (by omega), F2 115 (by omega) (by omega)]; exact x4), (by unfold ny_HM; rw [F2 116 (by omega) (by omega), F2 117 (by omega) (by omega), F2 118 (by omega) (by omega)]; exact x5), ⟨(F2b 35 (by omega)).trans x6.1, by rw [F2 119 (by omega) (by omega)]; exact x6.2⟩⟩
  exact ⟨rfl, K1 I2 ⟨a, b, kk, (o_feed (ny_lg2 (I 0 (i + 1)) (I 0 (i + 2))) (I 0 (i + 3)) T tb).2.1, (o_feed (ny_lg2 (I 0 (i + 1)) (I 0 (i + 2))) (I 0 (i + 3)) T tb).2.2, n, r, s, hf, tr, va, vv, g1, g2, MM, EE⟩ ((F2 0 (by omega) (by omega)).trans e0)⟩
theorem v_rules (hv : nv I) (K1 : ∀ I', nv I' → I' 0 = I 0 → K I') : ny_C1 1300 m_No_rules [.ref 5] Ln I (fun r I1 => ny_C1 1300 m_Md_rules [.ref 102] Ln I1 (fun r2 I2 => r = r2 ∧ K I2)) := by
  obtain ⟨a, b, kk, T, tb, n, r, s, hf, tr, hVa, hV, hC, hD, hM, hE⟩ := hv
  obtain ⟨d1, d2, d3, d4, d5, d6, d7⟩ := id hD
  obtain ⟨x1, x2, x3, x4, x5, x6⟩ := id hE
  obtain ⟨w1, w2, w3, w4, w5, w6⟩ := id hV
  refine q_No_rules d7 d2 w3 hC hVa (fun I1 C1 F1 c' => ?_)
  have D1 : nv_D I1 b kk 0 tb n r s hf tr := ⟨nv_Kmv w1 (F1 1 (by omega) (by omega)) (by rw [F1 5 (by omega) (by omega)]) (fun c x y => F1 c (by omega) (by omega)) d1, c', nv_Rmv (by rw [F1 5 (by omega) (by omega)]) w4 (fun c x y => F1 c (by omega) (by omega)) d3, nv_Smv (fun c x y => F1 c (by omega) (by omega)) d4, nv_Hmv (fun c x y => F1 c (by omega) (by omega)) d5, nv_Qmv (F1 88 (by omega) (by omega)) (F1 89 (by omega) (by omega)) d6, nv_Xmv (F1 2 (by omega) (by omega)) (F1 3 (by omega) (by omega)) d7⟩
  obtain ⟨M1, E1⟩ := nv_Mlow (fun c hc => F1 c (by omega) (by omega)) hM hE
  obtain ⟨x1, x2, x3, x4, x5, x6⟩ := id E1
  refine q_Md_rules2 x2 w3 M1 hVa (fun I2 F2 MM m' => ?_)
  have vv : nv_V b kk 0 tb n s hf := ⟨w1, w2, ⟨by omega, fun j hj => absurd hj (by omega)⟩, w4, w5, w6⟩
  have va := (o_rules_V (b := tb) w3.1 hVa).1
  obtain ⟨g1, g2⟩ := nv_Chigh va vv (fun c hc => F2.1 c (by omega) (by omega) (by omega)) C1 D1
  have EE : nv_E I2 b kk 0 tb n r s hf tr := ⟨⟨(F2.2 2 (by omega)).trans x1.1, fun q => by rw [F2.1 104 (by omega) (by omega) (by omega)]; exact x1.2 q⟩, m', ⟨(F2.2 27 (by omega)).trans x3.1, by rw [F2.1 112 (by omega) (by omega) (by omega)]; exact x3.2⟩, (by unfold ny_SM; rw [F2.1 113 (by omega) (by omega) (by omega), F2.1 114 (by omega) (by omega) (by omega), F2.1 115 (by omega) (by omega) (by omega)]; exact x4), (by unfold ny_HM; rw [F2.1 116 (by omega) (by omega) (by omega), F2.1 117 (by omega) (by omega) (by omega), F2.1 118 (by omega) (by omega) (by omega)]; exact x5), ⟨(F2.2 35 (by omega)).trans x6.1, by rw [F2.1 119 (by omega) (by omega) (by omega)]; exact x6.2⟩⟩
  exact ⟨rfl, K1 I2 ⟨_, b, kk, 0, tb, n, r, s, hf, tr, va, vv, g1, g2, MM, EE⟩ ((F2.1 0 (by omega) (by omega) (by omega)).trans (F1 0 (by omega) (by omega)))⟩
theorem v_prove (hv : nv I) (K1 : ∀ I', nv I' → I' 0 = I 0 → K I') : ny_C1 1300 m_No_prove [.ref 5, .int (I 0 (i + 1))] Ln I (fun r I1 => ny_C1 1300 m_Md_prove [.ref 102, .int (I1 0 (i + 1))] Ln I1 (fun r2 I2 => r = r2 ∧ K I2)) := by
  obtain ⟨a, b, kk, T, tb, n, r, s, hf, tr, hVa, hV, hC, hD, hM, hE⟩ := hv
  obtain ⟨d1, d2, d3, d4, d5, d6, d7⟩ := id hD
  obtain ⟨x1, x2, x3, x4, x5, x6⟩ := id hE
  obtain ⟨w1, w2, w3, w4, w5, w6⟩ := id hV
  refine q_No_prove hC hVa d3 (fun I1 C1x F1 r1 => ?_)
  have C1 : ny_Cl I1 a := C1x
  have D1 : nv_D I1 b kk T tb (o_prove (I 0 (i + 1)) n r a).2.1 (o_prove (I 0 (i + 1)) n r a).2.2 s hf tr := ⟨nv_Kmv w1 (F1.1 1 (by omega)) (F1.2 2 (by omega)) (fun c x y => F1.1 c (by omega)) d1, nv_Tmv (by rw [F1.1 54 (by omega)]) (F1.1 55 (by omega)) d2, r1, nv_Smv (fun c x y => F1.1 c (by omega)) d4, nv_Hmv (fun c x y => F1.1 c (by omega)) d5, nv_Qmv (F1.1 88 (by omega)) (F1.1 89 (by omega)) d6, nv_Xmv (F1.1 2 (by omega)) (F1.1 3 (by omega)) d7⟩
  obtain ⟨M1, E1⟩ := nv_Mlow (fun c hc => F1.1 c (by omega)) hM hE
  obtain ⟨x1, x2, x3, x4, x5, x6⟩ := id E1
  have e0 : I1 0 = I 0 := F1.1 0 (by omega)
  rw [e0]
  refine q_Md_prove M1 hVa x3 (fun I2 MMx F2 r2 => ?_)
  have vv : nv_V b kk T tb (o_prove (I 0 (i + 1)) n r a).2.1 s hf := ⟨w1, w2, w3, o_prove_V w4 _, w5, w6⟩
  have va : ny_V a := hVa
  obtain ⟨g1, g2⟩ := nv_Chigh va vv (fun c hc => F2.1 c (by omega)) C1 D1
  have MM : ny_Md I2 a := MMx
  have EE : nv_E I2 b kk T tb (o_prove (I 0 (i + 1)) n r a).2.1 (o_prove (I 0 (i + 1)) n r a).2.2 s hf tr := ⟨⟨(F2.2 2 (by omega)).trans x1.1, fun q => by rw [F2.1 104 (by omega)]; exact x1.2 q⟩, ⟨(F2.2 5 (by omega)).trans x2.1, by rw [F2.1 106 (by omega)]; exact x2.2⟩, r2, (by unfold ny_SM; rw [F2.1 113 (by omega), F2.1 114 (by omega), F2.1 115 (by omega)]; exact x4), (by unfold ny_HM; rw [F2.1 116 (by omega), F2.1 117 (by omega), F2.1 118 (by omega)]; exact x5), ⟨(F2.2 35 (by omega)).trans x6.1, by rw [F2.1 119 (by omega)]; exact x6.2⟩⟩
  exact ⟨rfl, K1 I2 ⟨a, b, kk, T, tb, (o_prove (I 0 (i + 1)) n r a).2.1, (o_prove (I 0 (i + 1)) n r a).2.2, s, hf, tr, va, vv, g1, g2, MM, EE⟩ ((F2.1 0 (by omega)).trans e0)⟩
theorem v_alterRow (hv : nv I) (K1 : ∀ I', nv I' → I' 0 = I 0 → K I') : ny_C1 1300 m_No_alterRow [.ref 5, .int (I 0 (i + 1)), .int (I 0 (i + 2)), .int (I 0 (i + 3))] Ln I (fun r I1 => ny_C1 1300 m_Md_alterRow [.ref 102, .int (I1 0 (i + 1)), .int (I1 0 (i + 2)), .int (I1 0 (i + 3))] Ln I1 (fun r2 I2 => r = r2 ∧ K I2)) := by
  obtain ⟨a, b, kk, T, tb, n, r, s, hf, tr, hVa, hV, hC, hD, hM, hE⟩ := hv
  obtain ⟨d1, d2, d3, d4, d5, d6, d7⟩ := id hD
  obtain ⟨x1, x2, x3, x4, x5, x6⟩ := id hE
  obtain ⟨w1, w2, w3, w4, w5, w6⟩ := id hV
  refine q_No_alterRow d3 w4 (fun I1 F1 r1 => ?_)
  have C1 : ny_Cl I1 a := nv_Clq hVa (fun c hc => F1 c (by omega)) hC
  have D1 : nv_D I1 b kk T tb n (o_alterRow (I 0 (i + 1)) (I 0 (i + 2)) (I 0 (i + 3)) n r).2 s hf tr := ⟨nv_Kmv w1 (F1 1 (by omega)) (by rw [F1 5 (by omega)]) (fun c x y => F1 c (by omega)) d1, nv_Tmv (by rw [F1 54 (by omega)]) (F1 55 (by omega)) d2, r1, nv_Smv (fun c x y => F1 c (by omega)) d4, nv_Hmv (fun c x y => F1 c (by omega)) d5, nv_Qmv (F1 88 (by omega)) (F1 89 (by omega)) d6, nv_Xmv (F1 2 (by omega)) (F1 3 (by omega)) d7⟩
  obtain ⟨M1, E1⟩ := nv_Mlow (fun c hc => F1 c (by omega)) hM hE
  obtain ⟨x1, x2, x3, x4, x5, x6⟩ := id E1
  have e0 : I1 0 = I 0 := F1 0 (by omega)
  rw [e0]
  refine q_Md_alterRow x3 w4 (fun I2 F2 r2 => ?_)
  have vv : nv_V b kk T tb n s hf := hV
  have va : ny_V a := hVa
  obtain ⟨g1, g2⟩ := nv_Chigh va vv (fun c hc => F2 c (by omega)) C1 D1
  have MM : ny_Md I2 a := fun j => by rw [F2 103 (by omega)]; exact M1 j
  have EE : nv_E I2 b kk T tb n (o_alterRow (I 0 (i + 1)) (I 0 (i + 2)) (I 0 (i + 3)) n r).2 s hf tr := ⟨⟨(congrFun (F2 102 (by omega)) 2).trans x1.1, fun q => by rw [F2 104 (by omega)]; exact x1.2 q⟩, ⟨(congrFun (F2 102 (by omega)) 5).trans x2.1, by rw [F2 106 (by omega)]; exact x2.2⟩, r2, (by unfold ny_SM; rw [F2 113 (by omega), F2 114 (by omega), F2 115 (by omega)]; exact x4), (by unfold ny_HM; rw [F2 116 (by omega), F2 117 (by omega), F2 118 (by omega)]; exact x5), ⟨(congrFun (F2 102 (by omega)) 35).trans x6.1, by rw [F2 119 (by omega)]; exact x6.2⟩⟩
  exact ⟨rfl, K1 I2 ⟨a, b, kk, T, tb, n, (o_alterRow (I 0 (i + 1)) (I 0 (i + 2)) (I 0 (i + 3)) n r).2, s, hf, tr, va, vv, g1, g2, MM, EE⟩ ((F2 0 (by omega)).trans e0)⟩
theorem v_sheet (hv : nv I) (K1 : ∀ I', nv I' → I' 0 = I 0 → K I') : ny_C1 1300 m_No_sheet [.ref 5, .int (I 0 (i + 1)), .int (I 0 (i + 2)), .int (I 0 (i + 3))] Ln I (fun r I1 => ny_C1 1300 m_Md_sheet [.ref 102, .int (I1 0 (i + 1)), .int (I1 0 (i + 2)), .int (I1 0 (i + 3))] Ln I1 (fun r2 I2 => r = r2 ∧ K I2)) := by
  obtain ⟨a, b, kk, T, tb, n, r, s, hf, tr, hVa, hV, hC, hD, hM, hE⟩ := hv
  obtain ⟨d1, d2, d3, d4, d5, d6, d7⟩ := id hD
  obtain ⟨x1, x2, x3, x4, x5, x6⟩ := id hE
  obtain ⟨w1, w2, w3, w4, w5, w6⟩ := id hV
  refine q_No_sheet d4 (fun I1 F1 r1 => ?_)
  have C1 : ny_Cl I1 a := nv_Clq hVa (fun c hc => F1 c (by omega)) hC
  have D1 : nv_D I1 b kk T tb n r (o_sheet (I 0 (i + 1)) (I 0 (i + 2)) (I 0 (i + 3)) s).2 hf tr := ⟨nv_Kmv w1 (F1 1 (by omega)) (by rw [F1 5 (by omega)]) (fun c x y => F1 c (by omega)) d1, nv_Tmv (by rw [F1 54 (by omega)]) (F1 55 (by omega)) d2, nv_Rmv (by rw [F1 5 (by omega)]) w4 (fun c x y => F1 c (by omega)) d3, r1, nv_Hmv (fun c x y => F1 c (by omega)) d5, nv_Qmv (F1 88 (by omega)) (F1 89 (by omega)) d6, nv_Xmv (F1 2 (by omega)) (F1 3 (by omega)) d7⟩
  obtain ⟨M1, E1⟩ := nv_Mlow (fun c hc => F1 c (by omega)) hM hE
  obtain ⟨x1, x2, x3, x4, x5, x6⟩ := id E1
  have e0 : I1 0 = I 0 := F1 0 (by omega)
  rw [e0]
  refine q_Md_sheet x4 (fun I2 F2 r2 => ?_)
  have vv : nv_V b kk T tb n (o_sheet (I 0 (i + 1)) (I 0 (i + 2)) (I 0 (i + 3)) s).2 hf := ⟨w1, w2, w3, w4, o_sheet_V w5 _ _ _, w6⟩
  have va : ny_V a := hVa
  obtain ⟨g1, g2⟩ := nv_Chigh va vv (fun c hc => F2 c (by omega) (by omega) (by omega)) C1 D1
  have MM : ny_Md I2 a := fun j => by rw [F2 103 (by omega) (by omega) (by omega)]; exact M1 j
  have EE : nv_E I2 b kk T tb n r (o_sheet (I 0 (i + 1)) (I 0 (i + 2)) (I 0 (i + 3)) s).2 hf tr := ⟨⟨(congrFun (F2 102 (by omega) (by omega) (by omega)) 2).trans x1.1, fun q => by rw [F2 104 (by omega) (by omega) (by omega)]; exact x1.2 q⟩, ⟨(congrFun (F2 102 (by omega) (by omega) (by omega)) 5).trans x2.1, by rw [F2 106 (by omega) (by omega) (by omega)]; exact x2.2⟩, ⟨(congrFun (F2 102 (by omega) (by omega) (by omega)) 27).trans x3.1, by rw [F2 112 (by omega) (by omega) (by omega)]; exact x3.2⟩, r2, (by unfold ny_HM; rw [F2 116 (by omega) (by omega) (by omega), F2 117 (by omega) (by omega) (by omega), F2 118 (by omega) (by omega) (by omega)]; exact x5), ⟨(congrFun (F2 102 (by omega) (by omega) (by omega)) 35).trans x6.1, by rw [F2 119 (by omega) (by omega) (by omega)]; exact x6.2⟩⟩
  exact ⟨rfl, K1 I2 ⟨a, b, kk, T, tb, n, r, (o_sheet (I 0 (i + 1)) (I 0 (i + 2)) (I 0 (i + 3)) s).2, hf, tr, va, vv, g1, g2, MM, EE⟩ ((F2 0 (by omega) (by omega) (by omega)).trans e0)⟩
theorem v_write (hv : nv I) (K1 : ∀ I', nv I' → I' 0 = I 0 → K I') : ny_C1 1300 m_No_write [.ref 5, .int (I 0 (i + 1)), .int (I 0 (i + 2)), .int (I 0 (i + 3))] Ln I (fun r I1 => ny_C1 1300 m_Md_write [.ref 102, .int (I1 0 (i + 1)), .int (I1 0 (i + 2)), .int (I1 0 (i + 3))] Ln I1 (fun r2 I2 => r = r2 ∧ K I2)) := by
  obtain ⟨a, b, kk, T, tb, n, r, s, hf, tr, hVa, hV, hC, hD, hM, hE⟩ := hv
  obtain ⟨d1, d2, d3, d4, d5, d6, d7⟩ := id hD
  obtain ⟨x1, x2, x3, x4, x5, x6⟩ := id hE
  obtain ⟨w1, w2, w3, w4, w5, w6⟩ := id hV
  refine q_No_write d4 w5 (fun I1 F1 r1 => ?_)
  have C1 : ny_Cl I1 a := nv_Clq hVa (fun c hc => F1 c (by omega)) hC
  have D1 : nv_D I1 b kk T tb n r (o_write (I 0 (i + 1)) (I 0 (i + 2)) (I 0 (i + 3)) s).2 hf tr := ⟨nv_Kmv w1 (F1 1 (by omega)) (by rw [F1 5 (by omega)]) (fun c x y => F1 c (by omega)) d1, nv_Tmv (by rw [F1 54 (by omega)]) (F1 55 (by omega)) d2, nv_Rmv (by rw [F1 5 (by omega)]) w4 (fun c x y => F1 c (by omega)) d3, r1, nv_Hmv (fun c x y => F1 c (by omega)) d5, nv_Qmv (F1 88 (by omega)) (F1 89 (by omega)) d6, nv_Xmv (F1 2 (by omega)) (F1 3 (by omega)) d7⟩
  obtain ⟨M1, E1⟩ := nv_Mlow (fun c hc => F1 c (by omega)) hM hE
  obtain ⟨x1, x2, x3, x4, x5, x6⟩ := id E1
  have e0 : I1 0 = I 0 := F1 0 (by omega)
  rw [e0]
  refine q_Md_write x4 w5 (fun I2 F2 r2 => ?_)
  have vv : nv_V b kk T tb n (o_write (I 0 (i + 1)) (I 0 (i + 2)) (I 0 (i + 3)) s).2 hf := ⟨w1, w2, w3, w4, o_write_V w5 _ _ _, w6⟩
  have va : ny_V a := hVa
  obtain ⟨g1, g2⟩ := nv_Chigh va vv (fun c hc => F2 c (by omega)) C1 D1
  have MM : ny_Md I2 a := fun j => by rw [F2 103 (by omega)]; exact M1 j
  have EE : nv_E I2 b kk T tb n r (o_write (I 0 (i + 1)) (I 0 (i + 2)) (I 0 (i + 3)) s).2 hf tr := ⟨⟨(congrFun (F2 102 (by omega)) 2).trans x1.1, fun q => by rw [F2 104 (by omega)]; exact x1.2 q⟩, ⟨(congrFun (F2 102 (by omega)) 5).trans x2.1, by rw [F2 106 (by omega)]; exact x2.2⟩, ⟨(congrFun (F2 102 (by omega)) 27).trans x3.1, by rw [F2 112 (by omega)]; exact x3.2⟩, r2, (by unfold ny_HM; rw [F2 116 (by omega), F2 117 (by omega), F2 118 (by omega)]; exact x5), ⟨(congrFun (F2 102 (by omega)) 35).trans x6.1, by rw [F2 119 (by omega)]; exact x6.2⟩⟩
  exact ⟨rfl, K1 I2 ⟨a, b, kk, T, tb, n, r, (o_write (I 0 (i + 1)) (I 0 (i + 2)) (I 0 (i + 3)) s).2, hf, tr, va, vv, g1, g2, MM, EE⟩ ((F2 0 (by omega)).trans e0)⟩
theorem v_shelf (hv : nv I) (K1 : ∀ I', nv I' → I' 0 = I 0 → K I') : ny_C1 1300 m_No_shelf [.ref 5, .int (I 0 (i + 1)), .int (I 0 (i + 2)), .int (I 0 (i + 3))] Ln I (fun r I1 => ny_C1 1300 m_Md_shelf [.ref 102, .int (I1 0 (i + 1)), .int (I1 0 (i + 2)), .int (I1 0 (i + 3))] Ln I1 (fun r2 I2 => r = r2 ∧ K I2)) := by
  obtain ⟨a, b, kk, T, tb, n, r, s, hf, tr, hVa, hV, hC, hD, hM, hE⟩ := hv
  obtain ⟨d1, d2, d3, d4, d5, d6, d7⟩ := id hD
  obtain ⟨x1, x2, x3, x4, x5, x6⟩ := id hE
  obtain ⟨w1, w2, w3, w4, w5, w6⟩ := id hV
  refine q_No_shelf hC hVa d4 w5 d5 (fun I1 F1 r1 => ?_)
  have C1 : ny_Cl I1 a := nv_Clq hVa (fun c hc => F1 c (by omega)) hC
  have D1 : nv_D I1 b kk T tb n r s (o_shelf (I 0 (i + 1)) (I 0 (i + 2)) (I 0 (i + 3)) s a hf).2 tr := ⟨nv_Kmv w1 (F1 1 (by omega)) (by rw [F1 5 (by omega)]) (fun c x y => F1 c (by omega)) d1, nv_Tmv (by rw [F1 54 (by omega)]) (F1 55 (by omega)) d2, nv_Rmv (by rw [F1 5 (by omega)]) w4 (fun c x y => F1 c (by omega)) d3, nv_Smv (fun c x y => F1 c (by omega)) d4, r1, nv_Qmv (F1 88 (by omega)) (F1 89 (by omega)) d6, nv_Xmv (F1 2 (by omega)) (F1 3 (by omega)) d7⟩
  obtain ⟨M1, E1⟩ := nv_Mlow (fun c hc => F1 c (by omega)) hM hE
  obtain ⟨x1, x2, x3, x4, x5, x6⟩ := id E1
  have e0 : I1 0 = I 0 := F1 0 (by omega)
  rw [e0]
  refine q_Md_shelf M1 hVa x4 w5 x5 (fun I2 F2 r2 => ?_)
  have vv : nv_V b kk T tb n s (o_shelf (I 0 (i + 1)) (I 0 (i + 2)) (I 0 (i + 3)) s a hf).2 := ⟨w1, w2, w3, w4, w5, o_shelf_V hVa w5 w6 _ _ _⟩
  have va : ny_V a := hVa
  obtain ⟨g1, g2⟩ := nv_Chigh va vv (fun c hc => F2 c (by omega) (by omega) (by omega)) C1 D1
  have MM : ny_Md I2 a := fun j => by rw [F2 103 (by omega) (by omega) (by omega)]; exact M1 j
  have EE : nv_E I2 b kk T tb n r s (o_shelf (I 0 (i + 1)) (I 0 (i + 2)) (I 0 (i + 3)) s a hf).2 tr := ⟨⟨(congrFun (F2 102 (by omega) (by omega) (by omega)) 2).trans x1.1, fun q => by rw [F2 104 (by omega) (by omega) (by omega)]; exact x1.2 q⟩, ⟨(congrFun (F2 102 (by omega) (by omega) (by omega)) 5).trans x2.1, by rw [F2 106 (by omega) (by omega) (by omega)]; exact x2.2⟩, ⟨(congrFun (F2 102 (by omega) (by omega) (by omega)) 27).trans x3.1, by rw [F2 112 (by omega) (by omega) (by omega)]; exact x3.2⟩, (by unfold ny_SM; rw [F2 113 (by omega) (by omega) (by omega), F2 114 (by omega) (by omega) (by omega), F2 115 (by omega) (by omega) (by omega)]; exact x4), r2, ⟨(congrFun (F2 102 (by omega) (by omega) (by omega)) 35).trans x6.1, by rw [F2 119 (by omega) (by omega) (by omega)]; exact x6.2⟩⟩
  exact ⟨rfl, K1 I2 ⟨a, b, kk, T, tb, n, r, s, (o_shelf (I 0 (i + 1)) (I 0 (i + 2)) (I 0 (i + 3)) s a hf).2, tr, va, vv, g1, g2, MM, EE⟩ ((F2 0 (by omega) (by omega) (by omega)).trans e0)⟩
theorem v_act (hv : nv I) (K1 : ∀ I', nv I' → I' 0 = I 0 → K I') : ny_C1 1300 m_No_act [.ref 5, .int (I 0 (i + 1)), .int (I 0 (i + 2)), .int (I 0 (i + 3))] Ln I (fun r I1 => ny_C1 1300 m_Md_act [.ref 102, .int (I1 0 (i + 1)), .int (I1 0 (i + 2)), .int (I1 0 (i + 3))] Ln I1 (fun r2 I2 => r = r2 ∧ K I2)) := by
  obtain ⟨a, b, kk, T, tb, n, r, s, hf, tr, hVa, hV, hC, hD, hM, hE⟩ := hv
  obtain ⟨d1, d2, d3, d4, d5, d6, d7⟩ := id hD
  obtain ⟨x1, x2, x3, x4, x5, x6⟩ := id hE
  obtain ⟨w1, w2, w3, w4, w5, w6⟩ := id hV
  refine q_No_act hC hVa d5 w6 (fun I1 F1 r1 => ?_)
  have C1 : ny_Cl I1 a := nv_Clq hVa (fun c hc => F1 c (by omega) (by omega)) hC
  have D1 : nv_D I1 b kk T tb n r s hf (o_act (I 0 (i + 1)) (I 0 (i + 2)) (I 0 (i + 3)) a hf).2 := ⟨nv_Kmv w1 (F1 1 (by omega) (by omega)) (by rw [F1 5 (by omega) (by omega)]) (fun c x y => F1 c (by omega) (by omega)) d1, nv_Tmv (by rw [F1 54 (by omega) (by omega)]) (F1 55 (by omega) (by omega)) d2, nv_Rmv (by rw [F1 5 (by omega) (by omega)]) w4 (fun c x y => F1 c (by omega) (by omega)) d3, nv_Smv (fun c x y => F1 c (by omega) (by omega)) d4, nv_Hmv (fun c x y => F1 c (by omega) (by omega)) d5, r1, nv_Xmv (F1 2 (by omega) (by omega)) (F1 3 (by omega) (by omega)) d7⟩
  obtain ⟨M1, E1⟩ := nv_Mlow (fun c hc => F1 c (by omega) (by omega)) hM hE
  obtain ⟨x1, x2, x3, x4, x5, x6⟩ := id E1
  have e0 : I1 0 = I 0 := F1 0 (by omega) (by omega)
  rw [e0]
  refine q_Md_act M1 hVa x5 w6 (fun I2 F2 r2 => ?_)
  have vv : nv_V b kk T tb n s hf := hV
  have va : ny_V a := hVa
  obtain ⟨g1, g2⟩ := nv_Chigh va vv (fun c hc => F2.1 c (by omega) (by omega)) C1 D1
  have MM : ny_Md I2 a := fun j => by rw [F2.1 103 (by omega) (by omega)]; exact M1 j
  have EE : nv_E I2 b kk T tb n r s hf (o_act (I 0 (i + 1)) (I 0 (i + 2)) (I 0 (i + 3)) a hf).2 := ⟨⟨(F2.2 2 (by omega)).trans x1.1, fun q => by rw [F2.1 104 (by omega) (by omega)]; exact x1.2 q⟩, ⟨(F2.2 5 (by omega)).trans x2.1, by rw [F2.1 106 (by omega) (by omega)]; exact x2.2⟩, ⟨(F2.2 27 (by omega)).trans x3.1, by rw [F2.1 112 (by omega) (by omega)]; exact x3.2⟩, (by unfold ny_SM; rw [F2.1 113 (by omega) (by omega), F2.1 114 (by omega) (by omega), F2.1 115 (by omega) (by omega)]; exact x4), (by unfold ny_HM; rw [F2.1 116 (by omega) (by omega), F2.1 117 (by omega) (by omega), F2.1 118 (by omega) (by omega)]; exact x5), r2⟩
  exact ⟨rfl, K1 I2 ⟨a, b, kk, T, tb, n, r, s, hf, (o_act (I 0 (i + 1)) (I 0 (i + 2)) (I 0 (i + 3)) a hf).2, va, vv, g1, g2, MM, EE⟩ ((F2.1 0 (by omega) (by omega)).trans e0)⟩
theorem v_keep (hv : nv I) (K1 : ∀ I', nv I' → I' 0 = I 0 → K I') : ny_C1 1300 m_No_keep [.ref 5] Ln I (fun r I1 => ny_C1 1300 m_Md_keep [.ref 102] Ln I1 (fun r2 I2 => r = r2 ∧ K I2)) := by
  obtain ⟨a, b, kk, T, tb, n, r, s, hf, tr, hVa, hV, hC, hD, hM, hE⟩ := hv
  obtain ⟨d1, d2, d3, d4, d5, d6, d7⟩ := id hD
  obtain ⟨x1, x2, x3, x4, x5, x6⟩ := id hE
  obtain ⟨w1, w2, w3, w4, w5, w6⟩ := id hV
  refine q_No_keep hC hVa (fun I1 F1 F1b k2 k3 => ?_)
  have C1 : ny_Cl I1 a := nv_Clq hVa (fun c hc => F1 c (by omega) (by omega)) hC
  have D1 : nv_D I1 a 1 T tb n r s hf tr := ⟨⟨k2, fun _ => k3⟩, nv_Tmv (by rw [F1 54 (by omega) (by omega)]) (F1 55 (by omega) (by omega)) d2, nv_Rmv (F1b 6 (by omega)) w4 (fun c x y => F1 c (by omega) (by omega)) d3, nv_Smv (fun c x y => F1 c (by omega) (by omega)) d4, nv_Hmv (fun c x y => F1 c (by omega) (by omega)) d5, nv_Qmv (F1 88 (by omega) (by omega)) (F1 89 (by omega) (by omega)) d6, nv_Xmv (F1 2 (by omega) (by omega)) (F1 3 (by omega) (by omega)) d7⟩
  obtain ⟨M1, E1⟩ := nv_Mlow (fun c hc => F1 c (by omega) (by omega)) hM hE
  obtain ⟨x1, x2, x3, x4, x5, x6⟩ := id E1
  have e0 : I1 0 = I 0 := F1 0 (by omega) (by omega)
  refine q_Md_keep M1 (fun I2 F2 F2b m2 m3 => ?_)
  have vv : nv_V a 1 T tb n s hf := ⟨hVa, by omega, w3, w4, w5, w6⟩
  have va : ny_V a := hVa
  obtain ⟨g1, g2⟩ := nv_Chigh va vv (fun c hc => F2 c (by omega) (by omega)) C1 D1
  have MM : ny_Md I2 a := fun j => by rw [F2 103 (by omega) (by omega)]; exact M1 j
  have EE : nv_E I2 a 1 T tb n r s hf tr := ⟨⟨m2, fun _ => m3⟩, ⟨(F2b 5 (by omega)).trans x2.1, by rw [F2 106 (by omega) (by omega)]; exact x2.2⟩, ⟨(F2b 27 (by omega)).trans x3.1, by rw [F2 112 (by omega) (by omega)]; exact x3.2⟩, (by unfold ny_SM; rw [F2 113 (by omega) (by omega), F2 114 (by omega) (by omega), F2 115 (by omega) (by omega)]; exact x4), (by unfold ny_HM; rw [F2 116 (by omega) (by omega), F2 117 (by omega) (by omega), F2 118 (by omega) (by omega)]; exact x5), ⟨(F2b 35 (by omega)).trans x6.1, by rw [F2 119 (by omega) (by omega)]; exact x6.2⟩⟩
  exact ⟨rfl, K1 I2 ⟨a, a, 1, T, tb, n, r, s, hf, tr, va, vv, g1, g2, MM, EE⟩ ((F2 0 (by omega) (by omega)).trans e0)⟩
theorem v_again (hv : nv I) (K1 : ∀ I', nv I' → I' 0 = I 0 → K I') : ny_C1 1300 m_No_again [.ref 5] Ln I (fun r I1 => ny_C1 1300 m_Md_again [.ref 102] Ln I1 (fun r2 I2 => r = r2 ∧ K I2)) := by
  obtain ⟨a, b, kk, T, tb, n, r, s, hf, tr, hVa, hV, hC, hD, hM, hE⟩ := hv
  obtain ⟨d1, d2, d3, d4, d5, d6, d7⟩ := id hD
  obtain ⟨x1, x2, x3, x4, x5, x6⟩ := id hE
  obtain ⟨w1, w2, w3, w4, w5, w6⟩ := id hV
  have hk : kk = 0 ∨ kk = 1 := by omega
  rcases hk with rfl | rfl
  · refine q_No_again (b := b) w1 hC.1.2.2.2.2.2.2.2 (fun _ => ?_) (fun q => absurd d1.1 q) (fun q => absurd d1.1 q)
    exact q_Md_again (b := a) hM (fun _ => ⟨rfl, K1 I (nv_id hVa hV hC hD hM hE) rfl⟩) (fun q => absurd x1.1 q) (fun _ _ => rfl) (fun q => absurd x1.1 q)
  · have n5 : ∀ c : Int32, c = nI 1 → ¬ c = nI 0 := fun c e q => by rw [e] at q; exact absurd q (by decide)
    have hb' : ∀ j, j < 572 → (fun j => if j < 572 then b j else a j) j = b j := fun j hj => if_pos hj
    have va := nv_bV hb' w1
    refine q_No_again va hC.1.2.2.2.2.2.2.2 (fun q => absurd q (n5 _ d1.1)) (fun _ => nv_bCl hb' w1 (d1.2 rfl)) (fun _ I1 F1 C1 => ?_)
    have D1 : nv_D I1 b 1 T tb n r s hf tr := ⟨nv_Kmv w1 (F1 1 (by omega)) (by rw [F1 5 (by omega)]) (fun c x y => F1 c (by omega)) d1, nv_Tmv (by rw [F1 54 (by omega)]) (F1 55 (by omega)) d2, nv_Rmv (by rw [F1 5 (by omega)]) w4 (fun c x y => F1 c (by omega)) d3, nv_Smv (fun c x y => F1 c (by omega)) d4, nv_Hmv (fun c x y => F1 c (by omega)) d5, nv_Qmv (F1 88 (by omega)) (F1 89 (by omega)) d6, nv_Xmv (F1 2 (by omega)) (F1 3 (by omega)) d7⟩
    obtain ⟨M1, E1⟩ := nv_Mlow (fun c hc => F1 c (by omega)) hM hE
    obtain ⟨x1, x2, x3, x4, x5, x6⟩ := id E1
    refine q_Md_again (b := fun j => if j < 572 then b j else a j) M1 (fun q => absurd q (n5 _ x1.1)) (fun _ j hj => (x1.2 rfl j hj).trans (congrArg nI (hb' j hj).symm)) (fun j hj => if_neg (by omega)) (fun _ I2 F2 MM => ?_)
    obtain ⟨g1, g2⟩ := nv_Chigh va hV (fun c hc => F2 c (by omega)) C1 D1
    have EE : nv_E I2 b 1 T tb n r s hf tr := ⟨⟨(congrFun (F2 102 (by omega)) 2).trans x1.1, fun q => by rw [F2 104 (by omega)]; exact x1.2 q⟩, ⟨(congrFun (F2 102 (by omega)) 5).trans x2.1, by rw [F2 106 (by omega)]; exact x2.2⟩, ⟨(congrFun (F2 102 (by omega)) 27).trans x3.1, by rw [F2 112 (by omega)]; exact x3.2⟩, (by unfold ny_SM; rw [F2 113 (by omega), F2 114 (by omega), F2 115 (by omega)]; exact x4), (by unfold ny_HM; rw [F2 116 (by omega), F2 117 (by omega), F2 118 (by omega)]; exact x5), ⟨(congrFun (F2 102 (by omega)) 35).trans x6.1, by rw [F2 119 (by omega)]; exact x6.2⟩⟩
    exact ⟨rfl, K1 I2 ⟨_, b, 1, T, tb, n, r, s, hf, tr, va, hV, g1, g2, MM, EE⟩ ((F2 0 (by omega)).trans (F1 0 (by omega)))⟩
end NVP
