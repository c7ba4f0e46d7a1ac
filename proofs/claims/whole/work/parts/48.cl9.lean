/-! the class: all of the basin, its small methods -/
def ny_Re (I : ny_I) (a : ny_a) : Prop := I 23 0 = nI (a 6) ∧ ∀ r, r < a 6 → I 24 r = nI (a (98 + 4 * r)) ∧ I 25 r = nI (a (99 + 4 * r)) ∧ I 26 r = nI (a (100 + 4 * r)) ∧ I 27 r = nI (a (101 + 4 * r))
/-- the class's basin holds a -/
def ny_Cl (I : ny_I) (a : ny_a) : Prop := ny_Ba I a ∧ ny_Mo I 7 a ∧ (I 6 9 = nI (a 3) ∧ I 6 10 = nI (a 4)) ∧ ny_Re I a
/-- all is as it was, but for the basin, what is ahead, and the facts -/
def nz_cf (I' I : ny_I) (a : ny_a) : Prop := ny_Cl I' a ∧ ∀ q, (q < 6 ∨ 30 ≤ q) → I' q = I q
theorem nz_cf_r {I : ny_I} {a : ny_a} (h : ny_Cl I a) : nz_cf I I a := ⟨h, fun _ _ => rfl⟩
theorem nz_rd {I : ny_I} {a : ny_a} {o p i v q j x : Nat} (h : I q j = nI (a x)) (hh : (q = o ∧ j = p) ↔ x = i) : ny_up I o p (nI v) q j = nI (ny_au a i v x) := by
  by_cases e : x = i
  · obtain ⟨rfl, rfl⟩ := hh.mpr e
    subst e
    rw [ny_upeq, nz_au_eq]
    unfold upd
    rw [if_pos rfl]
  · rw [nz_au_ne e, ← h]
    by_cases e2 : q = o
    · subst e2
      rw [ny_upeq]
      unfold upd
      rw [if_neg (fun r => e (hh.mp ⟨rfl, r⟩))]
    · rw [ny_upne _ e2]
theorem nz_Cl_put {I : ny_I} {a : ny_a} {o p i v : Nat} (h : o = 9 ∧ i = 8 + 5 * p ∧ p < 6 ∨ o = 10 ∧ i = 10 + 5 * p ∧ p < 6 ∨ o = 11 ∧ i = 11 + 5 * p ∧ p < 6 ∨ o = 13 ∧ i = 38 + p ∧ p < 6 ∨ o = 14 ∧ i = 44 + p ∧ p < 6 ∨ o = 12 ∧ i = 50 + p ∧ p < 16 ∨ o = 8 ∧ i = 9 + 5 * p ∧ p < 6 ∨ o = 6 ∧ i = 2 ∧ p = 8 ∨ o = 6 ∧ i = 3 ∧ p = 9) (hV : ny_V a) (hC : ny_Cl I a) : ny_Cl (ny_up I o p (nI v)) (ny_au a i v) := by
  have ea : ∀ j, j ≠ i → ny_au a i v j = a j := fun j hj => nz_au_ne hj
  have e : ∀ q, q ≠ o → ny_up I o p (nI v) q = I q := fun q hq => ny_upne _ hq _ _
  have w := hV.1
  obtain ⟨⟨⟨h1, h2⟩, h3, h4, h5, ⟨h6, h7⟩, h8, h9, h10⟩, ⟨m1, m2, m, m3, m4, m5⟩, ⟨s1, s2⟩, r1, r2⟩ := hC
  refine ⟨⟨⟨nz_rd h1 (by omega), nz_rd h2 (by omega)⟩, fun k hk => ?_, fun f hf => ?_, fun b hb => ?_, ⟨nz_rd h6 (by omega), nz_rd h7 (by omega)⟩, fun r hr => ?_, fun t ht => ?_, ?_⟩, ⟨nz_rd m1 (by omega), fun k hk => ?_, m, m3, ?_, fun k hk => ?_⟩, ⟨nz_rd s1 (by omega), nz_rd s2 (by omega)⟩, nz_rd r1 (by omega), fun r hr => ?_⟩
  · rw [ea 0 (by omega)] at hk
    obtain ⟨g1, g2, g3⟩ := h3 k hk
    exact ⟨nz_rd g1 (by omega), nz_rd g2 (by omega), nz_rd g3 (by omega)⟩
  · obtain ⟨g1, g2⟩ := h4 f hf
    exact ⟨nz_rd g1 (by omega), nz_rd g2 (by omega)⟩
  · exact nz_rd (h5 b hb) (by omega)
  · rw [ea 5 (by omega)] at hr
    obtain ⟨g1, g2, g3⟩ := h8 r hr
    exact ⟨nz_rd g1 (by omega), nz_rd g2 (by omega), nz_rd g3 (by omega)⟩
  · rw [ea 7 (by omega)] at ht
    obtain ⟨g1, g2⟩ := h9 t ht
    refine ⟨nz_rd g1 (by omega), fun q => ?_⟩
    rw [ea _ (by omega)] at q
    rw [ea _ (by omega), ea _ (by omega), e 20 (by omega), e 21 (by omega)]
    exact ⟨nz_vr_mv (fun j _ => by rw [e 22 (by omega)]) (g2 q).1, nz_vr_mv (fun j _ => by rw [e 22 (by omega)]) (g2 q).2⟩
  · rw [e 1 (by omega)]; exact h10
  · rw [ea 0 (by omega)] at hk
    exact nz_rd (m2 k hk) (by omega)
  · rw [e 7 (by omega)]; exact m4
  · rw [ea 0 (by omega), ea _ (by omega)]; exact m5 k hk
  · rw [ea 6 (by omega)] at hr
    obtain ⟨g1, g2, g3, g4⟩ := r2 r hr
    exact ⟨nz_rd g1 (by omega), nz_rd g2 (by omega), nz_rd g3 (by omega), nz_rd g4 (by omega)⟩
section NZCO
variable {d Ln : Nat} {I : ny_I} {Q : Int32 → ny_I → Prop} {Q0 : ny_I → Prop} {a : ny_a}
theorem q_No_I {x : Int32} (l n : Nat) {y z : Int32} (hy : y = nI l) (hz : z = nI n) (hl : l < 2 ^ 31) (hn : n < 2 ^ 31) (h1 : ∀ m, nz_in l n x = some m → l ≤ m → m ≤ n → x = nI m → Q (nI 1) I) (h0 : nz_in l n x = none → Q (nI 0) I) : ny_C1 d m_No_isBetween [.int x, .int y, .int z] Ln I Q :=
  q_No_in hy hz hl hn (fun m a b e => h1 m (nz_in_s hl hn a b e) a b e) fun h => h0 (nz_in_n hl hn h)
theorem q_No_O {x : Int32} (hB : ny_Ba I a) (hV : ny_V a) (h1 : ∀ k, nz_fg a x = some k → k < a 0 → x = nI k → Q (nI 1) I) (h0 : nz_fg a x = none → Q (nI 0) I) : ny_C1 d m_Ba_isFigure [.ref 6, .int x] Ln I Q :=
  q_Ba_isFigureX hB hV (fun k hk e => h1 k (nz_fg_s hV.1.1 hk e) hk e) fun h => h0 (nz_fg_n hV.1.1 h)
theorem q_No_isNiche {x : Int32} (h1 : ∀ m, nz_in 0 5 x = some m → m ≤ 5 → x = nI m → Q (nI 1) I) (h0 : nz_in 0 5 x = none → Q (nI 0) I) : ny_C1 (d + 1) m_No_isNiche [.int x] Ln I Q :=
  s_No_isNiche_0 (q_No_I 0 5 rfl rfl (by decide) (by decide) (fun m e _ hm ex => ⟨Or.inr rfl, h1 m e hm ex⟩) fun e => ⟨Or.inl rfl, h0 e⟩)
theorem q_Ki_isMade {x : Int32} (h1 : ∀ m, nz_in 1 5 x = some m → 1 ≤ m → m ≤ 5 → x = nI m → Q (nI 1) I) (h0 : nz_in 1 5 x = none → Q (nI 0) I) : ny_C1 d m_Ki_isMade [.int x] Ln I Q := by
  have key : (∃ m, 1 ≤ m ∧ m ≤ 5 ∧ x = nI m) ∨ ∀ m, 1 ≤ m → m ≤ 5 → x ≠ nI m := by
    by_cases c : ∃ m, 1 ≤ m ∧ m ≤ 5 ∧ x = nI m
    · exact Or.inl c
    · exact Or.inr fun m a b e => c ⟨m, a, b, e⟩
  refine s_Ki_isMade_0 ⟨fun c => ?_, fun c => ⟨fun c2 => ?_, fun c2 => ?_⟩⟩
  · refine h0 (nz_in_n (by decide) (by decide) fun m a b e => absurd c ?_)
    rw [e, ny_lit, ny_lt (by omega) (by decide)]; omega
  · refine h0 (nz_in_n (by decide) (by decide) fun m a b e => absurd c2 ?_)
    rw [e, ny_lit, ny_lt (by decide) (by omega)]; omega
  · obtain ⟨m, a, b, e⟩ := (nz_i32 (x := x) (l := 1) (n := 5) (by decide) (by decide)).mp ⟨Int32.not_lt.mp c, Int32.not_lt.mp c2⟩
    exact h1 m (nz_in_s (by decide) (by decide) a b e) a b e
theorem q_No_put6 {o p v : Nat} (ho : o = 8 ∨ o = 9 ∨ o = 10 ∨ o = 11 ∨ o = 13 ∨ o = 14) (hp : p < 6) (h : Q (I o p) (ny_up I o p (nI v))) : ny_C1 d m_No_put [.ref o, .int (nI p), .int (nI v)] Ln I Q := by
  refine s_No_put_6_0 ho ?_
  simp (disch := omega) only [ny_lit, nI_add, ny_mul, nI_clamp, ny_le, ny_lt, ny_eq, ny_div, ny_rem, ny_rem2, ny_inN, true_and]
  refine ⟨fun c => absurd c (by omega), fun _ => ⟨fun _ => h, fun c => absurd hp c⟩⟩
theorem q_No_put16 {p v : Nat} (hp : p < 16) (h : Q (I 12 p) (ny_up I 12 p (nI v))) : ny_C1 d m_No_put [.ref 12, .int (nI p), .int (nI v)] Ln I Q := by
  refine s_No_put_16_0 ?_
  simp (disch := omega) only [ny_lit, nI_add, ny_mul, nI_clamp, ny_le, ny_lt, ny_eq, ny_div, ny_rem, ny_rem2, ny_inN, true_and]
  refine ⟨fun c => absurd c (by omega), fun _ => ⟨fun _ => h, fun c => absurd hp c⟩⟩
theorem nz_cf_p {o p i v : Nat} (h : o = 9 ∧ i = 8 + 5 * p ∧ p < 6 ∨ o = 10 ∧ i = 10 + 5 * p ∧ p < 6 ∨ o = 11 ∧ i = 11 + 5 * p ∧ p < 6 ∨ o = 13 ∧ i = 38 + p ∧ p < 6 ∨ o = 14 ∧ i = 44 + p ∧ p < 6 ∨ o = 12 ∧ i = 50 + p ∧ p < 16 ∨ o = 8 ∧ i = 9 + 5 * p ∧ p < 6 ∨ o = 6 ∧ i = 2 ∧ p = 8 ∨ o = 6 ∧ i = 3 ∧ p = 9) (hV : ny_V a) (hC : ny_Cl I a) : nz_cf (ny_up I o p (nI v)) I (ny_au a i v) :=
  ⟨nz_Cl_put h hV hC, fun q hq => ny_upne _ (by omega) _ _⟩
theorem q_No_weather {x y : Int32} (hC : ny_Cl I a) (hV : ny_V a) (h : ∀ I', nz_cf I' I (o_weather x y a).2 → Q (o_weather x y a).1 I') : ny_C1 (d + 1) m_No_weather [.ref 5, .int x, .int y] Ln I Q := by
  refine s_No_weather_0 (q_No_I 0 15 rfl rfl (by decide) (by decide) (fun b eb _ hb ex => ⟨fun q => absurd q (by decide), fun _ => q_No_I 0 15 rfl rfl (by decide) (by decide) (fun v ev _ hv ey => ⟨fun _ => ?_, fun q => absurd q (by decide)⟩) (fun ev => ⟨fun q => absurd rfl q, fun _ => ?_⟩)⟩) (fun eb => ⟨fun _ => ?_, fun q => absurd rfl q⟩))
  · subst ex ey
    simp only [o_weather, eb, ev] at h
    refine q_No_put16 (by omega) ?_
    rw [hC.1.2.2.2.1 b (by omega)]
    exact h _ (nz_cf_p (by omega) hV hC)
  · simp only [o_weather, eb, ev] at h
    rw [ny_m1]; exact h I (nz_cf_r hC)
  · simp only [o_weather, eb] at h
    rw [ny_m1]; exact h I (nz_cf_r hC)
theorem q_No_remake {x y : Int32} (hC : ny_Cl I a) (hV : ny_V a) (h : ∀ I', nz_cf I' I (o_remake x y a).2 → Q (o_remake x y a).1 I') : ny_C1 (d + 1) m_No_remake [.ref 5, .int x, .int y] Ln I Q := by
  have V1 := hV.1; have V2 := hV.2.1; have V3 := hV.2.2.1; have V4 := hV.2.2.2.1; have V5 := hV.2.2.2.2.1; obtain ⟨v0, v1, v2, v3, v5, v6, v7⟩ := V1
  refine s_No_remake_0 (q_No_O hC.1 hV (fun k ek hk ex => ⟨fun q => absurd q (by decide), fun _ => q_Ki_isMade (fun v ev _ hv ey => ⟨fun _ => ?_, fun q => absurd q (by decide)⟩) (fun ev => ⟨fun q => absurd rfl q, fun _ => ?_⟩)⟩) (fun ek => ⟨fun _ => ?_, fun q => absurd rfl q⟩))
  · subst ex ey
    simp only [o_remake, ek, ev] at h
    refine q_No_put6 (by decide) (by omega) ?_
    rw [(hC.1.2.1 k hk).1]
    exact h _ (nz_cf_p (by omega) hV hC)
  · simp only [o_remake, ek, ev] at h
    rw [ny_m1]; exact h I (nz_cf_r hC)
  · simp only [o_remake, ek] at h
    rw [ny_m1]; exact h I (nz_cf_r hC)
theorem q_No_ends {x : Int32} (hC : ny_Cl I a) (hV : ny_V a) (h : ∀ I', nz_cf I' I (o_ends x a).2 → Q (o_ends x a).1 I') : ny_C1 (d + 1) m_No_ends [.ref 5, .int x] Ln I Q := by
  have V1 := hV.1; have V2 := hV.2.1; have V3 := hV.2.2.1; have V4 := hV.2.2.2.1; have V5 := hV.2.2.2.2.1; obtain ⟨v0, v1, v2, v3, v5, v6, v7⟩ := V1
  refine s_No_ends_0 (q_No_I 1 16 rfl rfl (by decide) (by decide) (fun e ee _ he ex => ⟨fun _ => ?_, fun q => absurd q (by decide)⟩) (fun ee => ⟨fun q => absurd rfl q, fun _ => ?_⟩))
  · subst ex
    simp only [o_ends, ee] at h
    rw [hC.2.1.1, hC.1.1.2]
    simp (disch := omega) only [ny_lit, nI_add, ny_mul, nI_clamp, ny_le, ny_lt, ny_eq, ny_div, ny_rem, ny_rem2, ny_inN]
    refine ⟨fun c => ?_, fun c => ?_⟩
    · rw [if_pos c] at h
      exact h _ (nz_cf_p (by omega) hV hC)
    · rw [if_neg c] at h
      rw [show -nI 4 = nI 4294967292 from ny_m4]; exact h I (nz_cf_r hC)
  · simp only [o_ends, ee] at h
    rw [ny_m1]; exact h I (nz_cf_r hC)
theorem q_No_nicheOf {x y : Int32} (hC : ny_Cl I a) (h : Q (o_nicheOf x y a) I) : ny_C1 (d + 2) m_No_nicheOf [.ref 5, .int x, .int y] Ln I Q := by
  refine s_No_nicheOf_0 (q_No_isNiche (fun f ef hf ex => ⟨fun q => absurd q (by decide), fun _ => q_No_I 0 1 rfl rfl (by decide) (by decide) (fun w ew _ hw ey => ⟨fun _ => ?_, fun q => absurd q (by decide)⟩) (fun ew => ⟨fun q => absurd rfl q, fun _ => ?_⟩)⟩) (fun ef => ⟨fun _ => ?_, fun q => absurd rfl q⟩))
  · subst ex ey
    simp only [o_nicheOf, ef, ew] at h
    obtain ⟨g1, g2⟩ := hC.1.2.2.1 f (by omega)
    simp (disch := omega) only [ny_lit, nI_add, ny_mul, nI_clamp, ny_le, ny_lt, ny_eq, ny_div, ny_rem, ny_rem2, ny_inN, true_and, g1, g2]
    refine ⟨fun c => ?_, fun c => ?_⟩
    · simp only [if_neg c] at h; exact h
    · simp only [if_pos c] at h; exact h
  · simp only [o_nicheOf, ef, ew] at h
    rw [ny_m1]; exact h
  · simp only [o_nicheOf, ef] at h
    rw [ny_m1]; exact h
theorem q_No_oneIf {b : Prop} [Decidable b] (h : Q (if b then nI 1 else nI 0) I) : ny_C1 d m_No_oneIf [.int (if b then nI 1 else nI 0)] Ln I Q := by
  refine s_No_oneIf_0 ?_
  by_cases c : b
  · simp only [if_pos c] at h ⊢
    exact ⟨fun q => absurd q (by decide), fun _ => h⟩
  · simp only [if_neg c] at h ⊢
    exact ⟨fun _ => h, fun q => absurd rfl q⟩
theorem nz_cf_s {I' : ny_I} (hC : ny_Cl I a) (hV : ny_V a) (hF : nz_fs I' I) : nz_cf I' I a := by
  refine ⟨⟨nz_Ba_Fs hF hV hC.1, nz_Mo_Fs nz_m7 hF hC.2.1, ?_, ?_⟩, fun q hq => hF.1 q (by omega)⟩
  · rw [hF.1 6 (by decide)]; exact hC.2.2.1
  · unfold ny_Re
    rw [hF.1 23 (by decide), hF.1 24 (by decide), hF.1 25 (by decide), hF.1 26 (by decide), hF.1 27 (by decide)]
    exact hC.2.2.2
theorem nz_cf_28 {I' : ny_I} (hC : ny_Cl I a) (hV : ny_V a) (hF : nz_fr 28 I' I) : nz_cf I' I a := by
  refine ⟨⟨nz_Ba_mv nz_m28 hF (fun _ _ _ _ => rfl) hV hC.1, nz_Mo_fr hF nz_m7 (by decide) nz_m28 hC.2.1, ?_, ?_⟩, fun q hq => hF.1 q (by omega) (by omega) (by omega)⟩
  · rw [hF.1 6 (by decide) (by decide) (by decide)]; exact hC.2.2.1
  · unfold ny_Re
    rw [hF.1 23 (by decide) (by decide) (by decide), hF.1 24 (by decide) (by decide) (by decide), hF.1 25 (by decide) (by decide) (by decide), hF.1 26 (by decide) (by decide) (by decide), hF.1 27 (by decide) (by decide) (by decide)]
    exact hC.2.2.2
theorem q_No_figureOf {x y : Int32} (hC : ny_Cl I a) (hV : ny_V a) (h : ∀ I', nz_cf I' I a → Q (o_figureOf x y a) I') : ny_C1 (d + 4) m_No_figureOf [.ref 5, .int x, .int y] Ln I Q := by
  have V1 := hV.1; have V2 := hV.2.1; have V3 := hV.2.2.1; have V4 := hV.2.2.2.1; have V5 := hV.2.2.2.2.1; obtain ⟨v0, v1, v2, v3, v5, v6, v7⟩ := V1
  have h0 := h I (nz_cf_r hC)
  refine s_No_figureOf_0 (q_No_O hC.1 hV (fun k ek hk ex => ⟨fun _ => ?_, fun q => absurd q (by decide)⟩) (fun ek => ⟨fun q => absurd rfl q, fun _ => ?_⟩))
  · subst ex
    have hk6 : k < 6 := by omega
    obtain ⟨g1, g2, g3⟩ := hC.1.2.1 k hk
    have g4 := hC.2.1.2.1 k hk
    have iy : ∀ w, w ≤ 9 → y = nI w → nz_in 0 9 y = some w := fun w hw e => nz_in_s (by decide) (by decide) (by omega) hw e
    have so : ∀ w, w ≤ 9 → y = nI w → o_figureOf (nI k) y a = if w = 5 then nI (ny_wry a k) else if w = 6 then nI (ny_shn a k) else if w = 7 then nI (ny_pay a k) else if w = 8 then (if ny_may a k then nI 1 else nI 0) else if w = 9 then nI (ny_wil a k) else nI (a (8 + 5 * k + w)) := by
      intro w hw e
      simp only [o_figureOf, ek, iy w hw e]
    simp only [ny_lit]
    refine ⟨fun c => ?_, fun c => ?_, fun c => ?_, fun c => ?_, fun c => ?_, fun c => ?_, fun c => ?_, fun c => ?_, fun c => ?_, fun c => ?_, fun c0 c1 c2 c3 c4 c5 c6 c7 c8 c9 => ?_⟩
    · rw [so 0 (by decide) c] at h0
      simp (disch := omega) only [ny_lit, nI_add, ny_mul, nI_clamp, ny_le, ny_lt, ny_eq, ny_div, ny_rem, ny_rem2, ny_inN, true_and, g1]
      exact h0
    · rw [so 1 (by decide) c] at h0
      simp (disch := omega) only [ny_lit, nI_add, ny_mul, nI_clamp, ny_le, ny_lt, ny_eq, ny_div, ny_rem, ny_rem2, ny_inN, true_and, g4]
      rw [show 9 + 5 * k = 8 + 5 * k + 1 by omega]
      exact h0
    · rw [so 2 (by decide) c] at h0
      simp (disch := omega) only [ny_lit, nI_add, ny_mul, nI_clamp, ny_le, ny_lt, ny_eq, ny_div, ny_rem, ny_rem2, ny_inN, true_and, g2]
      rw [show 10 + 5 * k = 8 + 5 * k + 2 by omega]
      exact h0
    · rw [so 3 (by decide) c] at h0
      simp (disch := omega) only [ny_lit, nI_add, ny_mul, nI_clamp, ny_le, ny_lt, ny_eq, ny_div, ny_rem, ny_rem2, ny_inN, true_and, g3]
      rw [show 11 + 5 * k = 8 + 5 * k + 3 by omega]
      exact h0
    · rw [so 4 (by decide) c] at h0
      refine q_Mo_isRelieved nz_m7 hC.2.1 hk6 (q_No_oneIf ?_)
      have U := V2 k hk6
      have e : (if k < a 0 ∧ a (12 + 5 * k) = 1 then nI 1 else nI 0) = nI (a (8 + 5 * k + 4)) := by
        rw [show 8 + 5 * k + 4 = 12 + 5 * k by omega]
        by_cases q : a (12 + 5 * k) = 1
        · rw [if_pos ⟨hk, q⟩, q]
        · rw [if_neg (fun r => q r.2), show a (12 + 5 * k) = 0 by omega]
      rw [e]
      exact h0
    · rw [so 5 (by decide) c] at h0
      exact q_Ba_wearies (d := d + 1) nz_m7 hC.1 hC.2.1 hV hk h0
    · rw [so 6 (by decide) c] at h0
      exact q_Ba_shows (d := d + 1) nz_m7 hC.1 hC.2.1 hV hk h0
    · rw [so 7 (by decide) c] at h0
      exact q_Ba_pays (d := d + 1) nz_m7 hC.1 hC.2.1 hV hk h0
    · refine q_Ba_mayBe nz_m7 hC.1 hC.2.1 hV hk fun I' hF => q_No_oneIf ?_
      have := h I' (nz_cf_s hC hV hF)
      rw [so 8 (by decide) c] at this
      exact this
    · refine q_Ba_will (d := d + 1) nz_m7 hC.1 hC.2.1 hV hk fun I' hF => ?_
      have := h I' (nz_cf_s hC hV hF)
      rw [so 9 (by decide) c] at this
      exact this
    · have : nz_in 0 9 y = none := by
        refine nz_in_n (by decide) (by decide) fun m _ hm e => ?_
        have hcs : m = 0 ∨ m = 1 ∨ m = 2 ∨ m = 3 ∨ m = 4 ∨ m = 5 ∨ m = 6 ∨ m = 7 ∨ m = 8 ∨ m = 9 := by omega
        rcases hcs with rfl | rfl | rfl | rfl | rfl | rfl | rfl | rfl | rfl | rfl
        · exact c0 e
        · exact c1 e
        · exact c2 e
        · exact c3 e
        · exact c4 e
        · exact c5 e
        · exact c6 e
        · exact c7 e
        · exact c8 e
        · exact c9 e
      simp only [o_figureOf, ek, this] at h0
      exact h0
  · simp only [o_figureOf, ek] at h0
    rw [ny_m1]; exact h0
end NZCO
