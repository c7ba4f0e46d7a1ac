/-! the model: the basin's small methods, as functions of their arguments -/
/-- x as a whole number from l to n -/
def nz_in (l n : Nat) (x : Int32) : Option Nat := if nI l ≤ x ∧ x ≤ nI n then some x.toNatClampNeg else none
theorem nz_i32 {x : Int32} {l n : Nat} (hl : l < 2 ^ 31) (hn : n < 2 ^ 31) : (nI l ≤ x ∧ x ≤ nI n) ↔ ∃ m, l ≤ m ∧ m ≤ n ∧ x = nI m := by
  rw [Int32.le_iff_toInt_le, Int32.le_iff_toInt_le, nI_toInt hl, nI_toInt hn]
  constructor
  · rintro ⟨h1, h2⟩
    obtain ⟨j, hj, rfl⟩ := nI_of (x := x) (fun q => by
      rw [Int32.lt_iff_toInt_lt] at q
      have : (0 : Int32).toInt = 0 := by decide
      omega)
    rw [nI_toInt hj] at h1 h2
    exact ⟨j, by omega, by omega, rfl⟩
  · rintro ⟨m, h1, h2, rfl⟩
    rw [nI_toInt (by omega)]
    omega
theorem nz_in_s {l n : Nat} {x : Int32} (hl : l < 2 ^ 31) (hn : n < 2 ^ 31) {m : Nat} (h1 : l ≤ m) (h2 : m ≤ n) (e : x = nI m) : nz_in l n x = some m := by
  unfold nz_in
  rw [if_pos ((nz_i32 hl hn).mpr ⟨m, h1, h2, e⟩), e, nI_clamp (by omega)]
theorem nz_in_n {l n : Nat} {x : Int32} (hl : l < 2 ^ 31) (hn : n < 2 ^ 31) (h : ∀ m, l ≤ m → m ≤ n → x ≠ nI m) : nz_in l n x = none := by
  unfold nz_in
  rw [if_neg]
  intro q
  obtain ⟨m, h1, h2, e⟩ := (nz_i32 hl hn).mp q
  exact h m h1 h2 e
/-- a figure's number -/
def nz_fg (a : ny_a) (x : Int32) : Option Nat := if ¬ x < 0 ∧ x < nI (a 0) then some x.toNatClampNeg else none
theorem nz_fg_s {a : ny_a} (h0 : a 0 ≤ 6) {k : Nat} (hk : k < a 0) {x : Int32} (e : x = nI k) : nz_fg a x = some k := by
  unfold nz_fg
  subst e
  rw [if_pos ⟨nI_pos (by omega), (ny_lt (by omega) (by omega)).mpr hk⟩, nI_clamp (by omega)]
theorem nz_fg_n {a : ny_a} (h0 : a 0 ≤ 6) {x : Int32} (h : ∀ k, k < a 0 → ¬ x = nI k) : nz_fg a x = none := by
  unfold nz_fg
  rw [if_neg]
  rintro ⟨q1, q2⟩
  obtain ⟨j, hj, rfl⟩ := nI_of q1
  exact h j ((ny_lt hj (by omega)).mp q2) rfl
/-- -1: refused -/
abbrev o_no (a : ny_a) : Int32 × ny_a := (nI 4294967295, a)
def o_weather (x y : Int32) (a : ny_a) : Int32 × ny_a :=
  match nz_in 0 15 x, nz_in 0 15 y with
  | some b, some v => (nI (a (50 + b)), ny_au a (50 + b) v)
  | _, _ => o_no a
def o_remake (x y : Int32) (a : ny_a) : Int32 × ny_a :=
  match nz_fg a x, nz_in 1 5 y with
  | some k, some v => (nI (a (8 + 5 * k)), ny_au a (8 + 5 * k) v)
  | _, _ => o_no a
def o_niche (x y z : Int32) (a : ny_a) : Int32 × ny_a :=
  match nz_in 0 5 x, nz_in 0 1 y, nz_in 0 9 z with
  | some f, some w, some v => (nI (a ((if w = 0 then 38 else 44) + f)), ny_au a ((if w = 0 then 38 else 44) + f) v)
  | _, _, _ => o_no a
def o_nicheOf (x y : Int32) (a : ny_a) : Int32 :=
  match nz_in 0 5 x, nz_in 0 1 y with
  | some f, some w => nI (a ((if w = 0 then 38 else 44) + f))
  | _, _ => nI 4294967295
def o_ends (x : Int32) (a : ny_a) : Int32 × ny_a :=
  match nz_in 1 16 x with
  | some e => if a 1 ≤ e then (nI (a 2), ny_au a 2 e) else (nI 4294967292, a)
  | _ => o_no a
def nz_add (a : ny_a) (k t g n : Nat) : ny_a := ny_au (ny_au (ny_au (ny_au (ny_au (ny_au a (8 + 5 * a 0) k) (9 + 5 * a 0) t) (10 + 5 * a 0) g) (11 + 5 * a 0) n) (12 + 5 * a 0) 0) 0 (a 0 + 1)
def o_figure (x y z w : Int32) (a : ny_a) : Int32 × ny_a :=
  match nz_in 1 5 x, nz_in 0 99 y, nz_in 0 9 z, nz_in 0 5 w with
  | some k, some t, some g, some n => if a 0 = 6 then (nI 4294967294, a) else (nI (a 0), nz_add a k t g n)
  | _, _, _, _ => o_no a
def o_figureOf (x y : Int32) (a : ny_a) : Int32 :=
  match nz_fg a x, nz_in 0 9 y with
  | some k, some w => if w = 5 then nI (ny_wry a k) else if w = 6 then nI (ny_shn a k) else if w = 7 then nI (ny_pay a k) else if w = 8 then (if ny_may a k then nI 1 else nI 0) else if w = 9 then nI (ny_wil a k) else nI (a (8 + 5 * k + w))
  | _, _ => nI 4294967295
theorem ny_m4 : (-4 : Int32) = nI 4294967292 := by decide +kernel
theorem ny_m2 : (-2 : Int32) = nI 4294967294 := by decide +kernel
section NZBO
variable {d Ln : Nat} {I : ny_I} {Q : Int32 → ny_I → Prop} {Q0 : ny_I → Prop} {a : ny_a}
theorem q_Md_I {x : Int32} (l n : Nat) {y z : Int64} (hy : y = lN l) (hz : z = lN n) (hl : l < 2 ^ 31) (hn : n < 2 ^ 31) (h1 : ∀ m, nz_in l n x = some m → l ≤ m → m ≤ n → x = nI m → Q (nI 1) I) (h0 : nz_in l n x = none → Q (nI 0) I) : ny_C1 d m_Md_isIn [.long x.toInt64, .long y, .long z] Ln I Q :=
  q_Md_in hy hz hl hn (fun m a b e => h1 m (nz_in_s hl hn a b e) a b e) fun h => h0 (nz_in_n hl hn h)
theorem q_Md_O {x : Int32} (ha : ny_Md I a) (hV : ny_V a) (h1 : ∀ k, nz_fg a x = some k → k < a 0 → x = nI k → Q (nI 1) I) (h0 : nz_fg a x = none → Q (nI 0) I) : ny_C1 d m_Md_isOne [.ref 102, .int x] Ln I Q :=
  q_Md_isOne ha hV (fun k hk e => h1 k (nz_fg_s hV.1.1 hk e) hk e) fun h => h0 (nz_fg_n hV.1.1 h)
theorem q_Md_isNiche {x : Int32} (h1 : ∀ m, nz_in 0 5 x = some m → m ≤ 5 → x = nI m → Q (nI 1) I) (h0 : nz_in 0 5 x = none → Q (nI 0) I) : ny_C1 d m_Md_isNiche [.int x] Ln I Q := by
  refine s_Md_isNiche_0 ⟨fun c => ?_, fun c => ?_⟩
  · refine h0 (nz_in_n (by decide) (by decide) fun m _ hm e => ?_)
    subst e
    exact absurd c (nI_pos (by omega))
  · obtain ⟨j, hj, rfl⟩ := nI_of c
    simp (disch := omega) only [ny_lit, nI_add, ny_mul, nI_clamp, ny_le, ny_lt, ny_eq, ny_div, ny_rem, ny_rem2, ny_inN]
    refine ⟨fun c2 => h0 (nz_in_n (by decide) (by decide) fun m _ hm e => ?_), fun c2 => h1 j (nz_in_s (by decide) (by decide) (by omega) (by omega) rfl) (by omega) rfl⟩
    have := (ny_eq (by omega) (by omega)).mp e
    omega
theorem q_Md_becomes {i v : Nat} (ha : ny_Md I a) (hi : i < 572) (h : ∀ I', nz_af 0 I' I (ny_au a i v) → Q (nI (a i)) I') : ny_C1 d m_Md_becomes [.ref 102, .int (nI i), .int (nI v)] Ln I Q := by
  refine s_Md_becomes_0 ?_
  simp (disch := omega) only [ny_lit, nI_add, ny_mul, nI_clamp, ny_le, ny_lt, ny_eq, ny_div, ny_rem, ny_rem2, ny_inN, ha _, true_and]
  exact h _ ⟨nz_Md_up ha i v, fun c x _ => ny_upne _ x _ _, fun j hj => absurd hj (by omega)⟩
theorem q_Md_weather {x y : Int32} (ha : ny_Md I a) (h : ∀ I', nz_af 0 I' I (o_weather x y a).2 → Q (o_weather x y a).1 I') : ny_C1 (d + 1) m_Md_weather [.ref 102, .int x, .int y] Ln I Q := by
  refine s_Md_weather_0 (q_Md_I 0 15 rfl rfl (by decide) (by decide) (fun b eb _ hb ex => ⟨fun q => absurd q (by decide), fun _ => q_Md_I 0 15 rfl rfl (by decide) (by decide) (fun v ev _ hv ey => ⟨fun q => absurd q (by decide), fun _ => ?_⟩) (fun ev => ⟨fun _ => ?_, fun q => absurd rfl q⟩)⟩) (fun eb => ⟨fun _ => ?_, fun q => absurd rfl q⟩))
  · subst ex ey
    simp only [o_weather, eb, ev] at h
    rw [ny_lit, nI_add]
    exact q_Md_becomes ha (by omega) h
  · simp only [o_weather, eb, ev] at h
    rw [ny_m1]; exact h I (nz_af_r ha)
  · simp only [o_weather, eb] at h
    rw [ny_m1]; exact h I (nz_af_r ha)
theorem q_Md_remake {x y : Int32} (ha : ny_Md I a) (hV : ny_V a) (h : ∀ I', nz_af 0 I' I (o_remake x y a).2 → Q (o_remake x y a).1 I') : ny_C1 (d + 1) m_Md_remake [.ref 102, .int x, .int y] Ln I Q := by
  have V1 := hV.1; have V2 := hV.2.1; have V3 := hV.2.2.1; have V4 := hV.2.2.2.1; have V5 := hV.2.2.2.2.1; obtain ⟨v0, v1, v2, v3, v5, v6, v7⟩ := V1
  refine s_Md_remake_0 (q_Md_O ha hV (fun k ek hk ex => ⟨fun q => absurd q (by decide), fun _ => q_Md_I 1 5 rfl rfl (by decide) (by decide) (fun v ev _ hv ey => ⟨fun q => absurd q (by decide), fun _ => ?_⟩) (fun ev => ⟨fun _ => ?_, fun q => absurd rfl q⟩)⟩) (fun ek => ⟨fun _ => ?_, fun q => absurd rfl q⟩))
  · subst ex ey
    simp only [o_remake, ek, ev] at h
    rw [ny_lit, ny_lit, ny_mul, nI_add]
    exact q_Md_becomes ha (by omega) h
  · simp only [o_remake, ek, ev] at h
    rw [ny_m1]; exact h I (nz_af_r ha)
  · simp only [o_remake, ek] at h
    rw [ny_m1]; exact h I (nz_af_r ha)
theorem q_Md_ends {x : Int32} (ha : ny_Md I a) (hV : ny_V a) (h : ∀ I', nz_af 0 I' I (o_ends x a).2 → Q (o_ends x a).1 I') : ny_C1 (d + 1) m_Md_ends [.ref 102, .int x] Ln I Q := by
  have V1 := hV.1; have V2 := hV.2.1; have V3 := hV.2.2.1; have V4 := hV.2.2.2.1; have V5 := hV.2.2.2.2.1; obtain ⟨v0, v1, v2, v3, v5, v6, v7⟩ := V1
  refine s_Md_ends_0 (q_Md_I 1 16 rfl rfl (by decide) (by decide) (fun e ee _ he ex => ⟨fun _ => ?_, fun q => absurd q (by decide)⟩) (fun ee => ⟨fun q => absurd rfl q, fun _ => ?_⟩))
  · subst ex
    simp only [o_ends, ee] at h
    simp (disch := omega) only [ny_lit, nI_add, ny_mul, nI_clamp, ny_le, ny_lt, ny_eq, ny_div, ny_rem, ny_rem2, ny_inN, ha _, true_and]
    refine ⟨fun c => ?_, fun c => ?_⟩
    · rw [if_pos c] at h
      exact q_Md_becomes ha (by decide) h
    · rw [if_neg c] at h
      rw [show -nI 4 = nI 4294967292 from ny_m4]; exact h I (nz_af_r ha)
  · simp only [o_ends, ee] at h
    rw [ny_m1]; exact h I (nz_af_r ha)
theorem q_Md_niche {x y z : Int32} (ha : ny_Md I a) (h : ∀ I', nz_af 0 I' I (o_niche x y z a).2 → Q (o_niche x y z a).1 I') : ny_C1 (d + 1) m_Md_niche [.ref 102, .int x, .int y, .int z] Ln I Q := by
  refine s_Md_niche_0 (q_Md_isNiche (fun f ef hf ex => ⟨fun q => absurd q (by decide), fun _ => q_Md_I 0 1 rfl rfl (by decide) (by decide) (fun w ew _ hw ey => ⟨fun q => absurd q (by decide), fun _ => q_Md_I 0 9 rfl rfl (by decide) (by decide) (fun v ev _ hv ez => ⟨fun _ => ?_, fun q => absurd q (by decide)⟩) (fun ev => ⟨fun q => absurd rfl q, fun _ => ?_⟩)⟩) (fun ew => ⟨fun _ => ?_, fun q => absurd rfl q⟩)⟩) (fun ef => ⟨fun _ => ?_, fun q => absurd rfl q⟩))
  · subst ex ey ez
    simp only [o_niche, ef, ew, ev] at h
    simp (disch := omega) only [ny_lit, nI_add, ny_mul, nI_clamp, ny_le, ny_lt, ny_eq, ny_div, ny_rem, ny_rem2, ny_inN]
    refine ⟨fun c => s_Md_niche_43 ?_, fun c => s_Md_niche_43 ?_⟩
    · simp only [if_neg c] at h
      rw [nI_add]
      exact q_Md_becomes ha (by omega) h
    · simp only [if_pos c] at h
      rw [nI_add]
      exact q_Md_becomes ha (by omega) h
  · simp only [o_niche, ef, ew, ev] at h
    rw [ny_m1]; exact h I (nz_af_r ha)
  · simp only [o_niche, ef, ew] at h
    rw [ny_m1]; exact h I (nz_af_r ha)
  · simp only [o_niche, ef] at h
    rw [ny_m1]; exact h I (nz_af_r ha)
theorem q_Md_nicheOf {x y : Int32} (ha : ny_Md I a) (h : Q (o_nicheOf x y a) I) : ny_C1 (d + 1) m_Md_nicheOf [.ref 102, .int x, .int y] Ln I Q := by
  refine s_Md_nicheOf_0 (q_Md_isNiche (fun f ef hf ex => ⟨fun q => absurd q (by decide), fun _ => q_Md_I 0 1 rfl rfl (by decide) (by decide) (fun w ew _ hw ey => ⟨fun _ => ?_, fun q => absurd q (by decide)⟩) (fun ew => ⟨fun q => absurd rfl q, fun _ => ?_⟩)⟩) (fun ef => ⟨fun _ => ?_, fun q => absurd rfl q⟩))
  · subst ex ey
    simp only [o_nicheOf, ef, ew] at h
    simp (disch := omega) only [ny_lit, nI_add, ny_mul, nI_clamp, ny_le, ny_lt, ny_eq, ny_div, ny_rem, ny_rem2, ny_inN, ha _, true_and]
    refine ⟨fun c => ?_, fun c => ?_⟩
    · simp only [if_neg c] at h; exact h
    · simp only [if_pos c] at h; exact h
  · simp only [o_nicheOf, ef, ew] at h
    rw [ny_m1]; exact h
  · simp only [o_nicheOf, ef] at h
    rw [ny_m1]; exact h
theorem q_Md_figure {x y z w : Int32} (ha : ny_Md I a) (hV : ny_V a) (h : ∀ I', nz_af 0 I' I (o_figure x y z w a).2 → Q (o_figure x y z w a).1 I') : ny_C1 (d + 1) m_Md_figure [.ref 102, .int x, .int y, .int z, .int w] Ln I Q := by
  have V1 := hV.1; have V2 := hV.2.1; have V3 := hV.2.2.1; have V4 := hV.2.2.2.1; have V5 := hV.2.2.2.2.1; obtain ⟨v0, v1, v2, v3, v5, v6, v7⟩ := V1
  refine s_Md_figure_0 (q_Md_I 1 5 rfl rfl (by decide) (by decide) (fun k ek _ hk ex => ⟨fun q => absurd q (by decide), fun _ => q_Md_I 0 99 rfl rfl (by decide) (by decide) (fun t et _ ht ey => ⟨fun q => absurd q (by decide), fun _ => q_Md_I 0 9 rfl rfl (by decide) (by decide) (fun g eg _ hg ez => ⟨fun q => absurd q (by decide), fun _ => q_Md_isNiche (fun n en hn ew => ⟨fun _ => ?_, fun q => absurd q (by decide)⟩) (fun en => ⟨fun q => absurd rfl q, fun _ => ?_⟩)⟩) (fun eg => ⟨fun _ => ?_, fun q => absurd rfl q⟩)⟩) (fun et => ⟨fun _ => ?_, fun q => absurd rfl q⟩)⟩) (fun ek => ⟨fun _ => ?_, fun q => absurd rfl q⟩))
  · subst ex ey ez ew
    simp only [o_figure, ek, et, eg, en] at h
    have e1 : 8 + 5 * a 0 + 1 = 9 + 5 * a 0 := by omega
    have e2 : 8 + 5 * a 0 + 2 = 10 + 5 * a 0 := by omega
    have e3 : 8 + 5 * a 0 + 3 = 11 + 5 * a 0 := by omega
    have e4 : 8 + 5 * a 0 + 4 = 12 + 5 * a 0 := by omega
    have M := nz_Md_up (nz_Md_up (nz_Md_up (nz_Md_up (nz_Md_up ha (8 + 5 * a 0) k) (9 + 5 * a 0) t) (10 + 5 * a 0) g) (11 + 5 * a 0) n) (12 + 5 * a 0) 0
    have M0 := M 0
    rw [nz_au_ne (by omega), nz_au_ne (by omega), nz_au_ne (by omega), nz_au_ne (by omega), nz_au_ne (by omega)] at M0
    have F := nz_Md_up M 0 (a 0 + 1)
    have F0 := F 0
    rw [nz_au_eq] at F0
    simp (disch := omega) only [ny_lit, nI_add, ny_mul, nI_clamp, ny_le, ny_lt, ny_eq, ny_div, ny_rem, ny_rem2, ny_inN, ha _, true_and, e1, e2, e3, e4, M0]
    refine ⟨fun c => ?_, fun c => ?_⟩
    · rw [if_neg c] at h
      have hc : a 0 < 6 := by omega
      rw [F0, pk_sub (by omega)]
      refine h _ ⟨F, fun c x _ => ?_, fun j hj => absurd hj (by omega)⟩
      rw [ny_upne _ x, ny_upne _ x, ny_upne _ x, ny_upne _ x, ny_upne _ x, ny_upne _ x]
    · rw [if_pos c] at h
      rw [show -nI 2 = nI 4294967294 from ny_m2]; exact h I (nz_af_r ha)
  · simp only [o_figure, ek, et, eg, en] at h
    rw [ny_m1]; exact h I (nz_af_r ha)
  · simp only [o_figure, ek, et, eg] at h
    rw [ny_m1]; exact h I (nz_af_r ha)
  · simp only [o_figure, ek, et] at h
    rw [ny_m1]; exact h I (nz_af_r ha)
  · simp only [o_figure, ek] at h
    rw [ny_m1]; exact h I (nz_af_r ha)
theorem q_Md_figureOf {x y : Int32} (ha : ny_Md I a) (hV : ny_V a) (h : Q (o_figureOf x y a) I) : ny_C1 (d + 5) m_Md_figureOf [.ref 102, .int x, .int y] Ln I Q := by
  have V1 := hV.1; have V2 := hV.2.1; have V3 := hV.2.2.1; have V4 := hV.2.2.2.1; have V5 := hV.2.2.2.2.1; obtain ⟨v0, v1, v2, v3, v5, v6, v7⟩ := V1
  refine s_Md_figureOf_0 (q_Md_O ha hV (fun k ek hk ex => ⟨fun q => absurd q (by decide), fun _ => q_Md_I 0 9 rfl rfl (by decide) (by decide) (fun w ew _ hw ey => ⟨fun _ => ?_, fun q => absurd q (by decide)⟩) (fun ew => ⟨fun q => absurd rfl q, fun _ => ?_⟩)⟩) (fun ek => ⟨fun _ => ?_, fun q => absurd rfl q⟩))
  · subst ex ey
    simp only [o_figureOf, ek, ew] at h
    have hk6 : k < 6 := by omega
    simp (disch := omega) only [ny_lit, nI_add, ny_mul, nI_clamp, ny_le, ny_lt, ny_eq, ny_div, ny_rem, ny_rem2, ny_inN]
    refine ⟨fun c => q_Md_wearied (d := d + 2) ha hV hk6 ?_, fun c => q_Md_shown (d := d + 2) ha hV hk6 ?_, fun c => q_Md_pays (d := d + 2) ha hV hk6 ?_, fun c => q_Md_mayBe (d := d) ha hV hk6 ?_, fun c => q_Md_will (d := d + 1) ha hV hk6 ?_, fun c5 c6 c7 c8 c9 => q_Md_its ha hk6 (by omega) ?_⟩
    · rw [if_pos c] at h; exact h
    · subst c; exact h
    · subst c; exact h
    · subst c
      simp only [show ¬ (8 = 5) by decide, show ¬ (8 = 6) by decide, show ¬ (8 = 7) by decide, if_false, if_true] at h
      by_cases q : ny_may a k = true
      · rw [if_pos q] at h ⊢
        exact ⟨fun q => absurd q (by decide), fun _ => h⟩
      · rw [if_neg q] at h ⊢
        exact ⟨fun _ => h, fun q => absurd rfl q⟩
    · subst c; exact h
    · rw [if_neg c5, if_neg c6, if_neg c7, if_neg c8, if_neg c9] at h; exact h
  · simp only [o_figureOf, ek, ew] at h
    rw [ny_m1]; exact h
  · simp only [o_figureOf, ek] at h
    rw [ny_m1]; exact h
end NZBO
