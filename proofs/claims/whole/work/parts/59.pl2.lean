/-! the model: best, ith, ways, rosters, bars -/
/-- a set of figures that there are -/
def nz_set (a : ny_a) (x : Int32) : Option Nat := nz_in 0 (2 ^ a 0 - 1) x
def o_best (x : Int32) (a : ny_a) : Int32 := match nz_in 0 4 x with
  | some n => nI (nz_pln a n 0).1
  | none => nI 4294967295
def o_ways (x : Int32) (a : ny_a) : Int32 := match nz_in 0 4 x with
  | some n => nI (nz_pln a n 0).2.1
  | none => nI 4294967295
def o_ith (x y : Int32) (a : ny_a) : Int32 := match nz_in 0 4 x, nz_in 0 3 y with
  | some n, some i => if min n (a 2 - a 1) ≤ i then nI 4294967293 else nI ((nz_pln a n 0).2.2.1 i)
  | _, _ => nI 4294967295
def o_roster (x y : Int32) (a : ny_a) : Int32 := match nz_in 0 4 x, nz_set a y with
  | some n, some wn => if 9 ≤ (nz_pln a n wn).2.2.2.1 then nI 4294967293 else nI (nz_pln a n wn).2.2.2.1
  | _, _ => nI 4294967295
def nz_bar (m : Nat) : Nat → Nat → Int32
  | _, 0 => nI 4294967293
  | o, n + 1 => if m.testBit o then nI o else nz_bar m (o + 1) n
def o_bars (x y : Int32) (a : ny_a) : Int32 := match nz_in 0 4 x, nz_set a y with
  | some n, some wn => nz_bar (wn &&& (63 - (nz_pln a n wn).2.2.2.2)) 0 (a 0)
  | _, _ => nI 4294967295
theorem nz_pw6 : ∀ c, c ≤ 6 → 2 ^ c ≤ 64 ∧ 1 ≤ 2 ^ c := by decide
theorem nz_shm : ∀ c, c ≤ 6 → (1 : Int32) <<< (nI c &&& 31) - 1 = nI (2 ^ c - 1) := by decide +kernel
theorem nz_pln_b {a : ny_a} {n wn : Nat} (hV : ny_V a) (hn : n ≤ 4) : nz_pb 2401 (nz_pln a n wn) ∧ 1 ≤ (nz_pln a n wn).2.1 := by
  have v := hV.1
  have hf4 : min n (a 2 - a 1) ≤ 4 := by omega
  have h7 : 7 ^ min n (a 2 - a 1) ≤ 7 ^ 4 := Nat.pow_le_pow_right (by decide) hf4
  refine ⟨nz_pb_m (nz_pl_b wn (min n (a 2 - a 1)) (W := 0) hV (by omega) (by omega) (by omega) ⟨by decide, by decide, by decide, by decide⟩) (by omega), nz_pl_1 wn _ _ _ _ _ _ _⟩
section NZPM
variable {d Ln : Nat} {I : ny_I} {Q : Int32 → ny_I → Prop} {Q0 : ny_I → Prop} {a : ny_a}
theorem q_Md_isLong {x : Int32} (h1 : ∀ m, nz_in 0 4 x = some m → m ≤ 4 → x = nI m → Q (nI 1) I) (h0 : nz_in 0 4 x = none → Q (nI 0) I) : ny_C1 (d + 1) m_Md_isLong [.int x] Ln I Q :=
  s_Md_isLong_0 (q_Md_I 0 4 rfl rfl (by decide) (by decide) (fun m e _ hm ex => ⟨Or.inr rfl, h1 m e hm ex⟩) fun e => ⟨Or.inl rfl, h0 e⟩)
theorem q_Md_isSet {x : Int32} (ha : ny_Md I a) (hV : ny_V a) (h1 : ∀ m, nz_set a x = some m → m < 64 → x = nI m → Q (nI 1) I) (h0 : nz_set a x = none → Q (nI 0) I) : ny_C1 (d + 1) m_Md_isSet [.ref 102, .int x] Ln I Q := by
  have v := hV.1
  have p := nz_pw6 (a 0) v.1
  refine s_Md_isSet_0 ⟨rfl, ?_⟩
  have e : (1 : Int32) <<< (I 103 (Int32.toNatClampNeg 0) &&& 31) - 1 = nI (2 ^ a 0 - 1) := by
    rw [show I 103 (Int32.toNatClampNeg 0) = nI (a 0) from ha 0]; exact nz_shm _ v.1
  rw [e]
  exact q_Md_I 0 (2 ^ a 0 - 1) rfl (nI_l (by omega)) (by decide) (by omega) (fun m e _ hm ex => ⟨Or.inr rfl, h1 m e (by omega) ex⟩) fun e => ⟨Or.inl rfl, h0 e⟩
theorem q_Md_best {x : Int32} (ha : ny_Md I a) (hV : ny_V a) (h : ∀ I', nz_pf 0 I' I a → Q (o_best x a) I') : ny_C1 (d + 11) m_Md_best [.ref 102, .int x] Ln I Q := by
  have h0 := h I
  refine s_Md_best_0 (q_Md_isLong (d := d + 9) (fun n en hn ex => ⟨fun _ => ?_, fun q => absurd q (by decide)⟩) fun en => ⟨fun q => absurd rfl q, fun _ => ?_⟩)
  · subst ex
    refine q_Md_findsPlans (wn := 0) ha hV hn (by decide) fun I' hF hM => ?_
    have b := nz_pln_b (wn := 0) hV hn
    have := h I' hF
    simp only [o_best, en] at this
    rw [hM.1, if_neg (by omega)]; exact this
  · simp only [o_best, en] at h
    rw [ny_m1]; exact h I ⟨ha, fun _ _ _ _ _ _ => rfl, fun _ _ => rfl, fun _ _ => rfl, fun _ _ => rfl⟩
theorem q_Md_ways {x : Int32} (ha : ny_Md I a) (hV : ny_V a) (h : ∀ I', nz_pf 0 I' I a → Q (o_ways x a) I') : ny_C1 (d + 11) m_Md_ways [.ref 102, .int x] Ln I Q := by
  refine s_Md_ways_0 (q_Md_isLong (d := d + 9) (fun n en hn ex => ⟨fun _ => ?_, fun q => absurd q (by decide)⟩) fun en => ⟨fun q => absurd rfl q, fun _ => ?_⟩)
  · subst ex
    refine q_Md_findsPlans (wn := 0) ha hV hn (by decide) fun I' hF hM => ?_
    have := h I' hF
    simp only [o_ways, en] at this
    rw [hM.2.1]; exact this
  · simp only [o_ways, en] at h
    rw [ny_m1]; exact h I ⟨ha, fun _ _ _ _ _ _ => rfl, fun _ _ => rfl, fun _ _ => rfl, fun _ _ => rfl⟩
theorem q_Md_ith {x y : Int32} (ha : ny_Md I a) (hV : ny_V a) (h : ∀ I', nz_pf 0 I' I a → Q (o_ith x y a) I') : ny_C1 (d + 11) m_Md_ith [.ref 102, .int x, .int y] Ln I Q := by
  have no : o_ith x y a = nI 4294967295 → Q (-1 : Int32) I := by
    intro e
    rw [ny_m1, ← e]; exact h I ⟨ha, fun _ _ _ _ _ _ => rfl, fun _ _ => rfl, fun _ _ => rfl, fun _ _ => rfl⟩
  refine s_Md_ith_0 (q_Md_isLong (d := d + 9) (fun n en hn ex => ⟨fun q => absurd q (by decide), fun _ => q_Md_I 0 3 rfl rfl (by decide) (by decide) (fun i ei _ hi ey => ⟨fun _ => ?_, fun q => absurd q (by decide)⟩) (fun ei => ⟨fun q => absurd rfl q, fun _ => no (by simp only [o_ith, en, ei])⟩)⟩) fun en => ⟨fun _ => no (by simp only [o_ith, en]), fun q => absurd rfl q⟩)
  subst ex ey
  refine q_Md_findsPlans (wn := 0) ha hV hn (by decide) fun I' hF hM => ?_
  have b := nz_pln_b (wn := 0) hV hn
  have := h I' hF
  simp only [o_ith, en, ei] at this
  obtain ⟨m1, m2⟩ := hM.2.2.2.2.2 (by omega)
  rw [m1]
  simp (disch := omega) only [ny_lit, nI_add, ny_mul, nI_clamp, ny_le, ny_lt, ny_eq, ny_div, ny_rem, ny_rem2, ny_inN, true_and]
  refine ⟨fun c => ?_, fun c => ?_⟩
  · rw [if_pos c] at this
    rw [show -nI 3 = nI 4294967293 from ny_m3]; exact this
  · rw [if_neg c] at this
    rw [m2 i (by omega)]; exact this
theorem q_Md_roster {x y : Int32} (ha : ny_Md I a) (hV : ny_V a) (h : ∀ I', nz_pf 0 I' I a → Q (o_roster x y a) I') : ny_C1 (d + 11) m_Md_roster [.ref 102, .int x, .int y] Ln I Q := by
  have no : o_roster x y a = nI 4294967295 → Q (-1 : Int32) I := by
    intro e
    rw [ny_m1, ← e]; exact h I ⟨ha, fun _ _ _ _ _ _ => rfl, fun _ _ => rfl, fun _ _ => rfl, fun _ _ => rfl⟩
  refine s_Md_roster_0 (q_Md_isLong (d := d + 9) (fun n en hn ex => ⟨fun q => absurd q (by decide), fun _ => q_Md_isSet (d := d + 9) ha hV (fun wn ei hi ey => ⟨fun _ => ?_, fun q => absurd q (by decide)⟩) (fun ei => ⟨fun q => absurd rfl q, fun _ => no (by simp only [o_roster, en, ei])⟩)⟩) fun en => ⟨fun _ => no (by simp only [o_roster, en]), fun q => absurd rfl q⟩)
  subst ex ey
  refine q_Md_findsPlans ha hV hn hi fun I' hF hM => ?_
  have b := (nz_pln_b (wn := wn) hV hn).1.2.2.1
  have := h I' hF
  simp only [o_roster, en, ei] at this
  rw [hM.2.2.2.1]
  simp (disch := omega) only [ny_lit, nI_add, ny_mul, nI_clamp, ny_le, ny_lt, ny_eq, ny_div, ny_rem, ny_rem2, ny_inN, true_and]
  refine ⟨fun c => ?_, fun c => ?_⟩
  · rw [if_pos c] at this
    rw [show -nI 3 = nI 4294967293 from ny_m3]; exact this
  · rw [if_neg c] at this; exact this
theorem q_Md_bars {x y : Int32} (ha : ny_Md I a) (hV : ny_V a) (h : ∀ I', nz_pf 0 I' I a → Q (o_bars x y a) I') : ny_C1 (d + 11) m_Md_bars [.ref 102, .int x, .int y] Ln I Q := by
  have V1 := hV.1; have V2 := hV.2.1; have V3 := hV.2.2.1; have V4 := hV.2.2.2.1; have V5 := hV.2.2.2.2.1; obtain ⟨v0, v1, v2, v3, v5, v6, v7⟩ := V1
  have no : o_bars x y a = nI 4294967295 → Q (-1 : Int32) I := by
    intro e
    rw [ny_m1, ← e]; exact h I ⟨ha, fun _ _ _ _ _ _ => rfl, fun _ _ => rfl, fun _ _ => rfl, fun _ _ => rfl⟩
  refine s_Md_bars_0 (q_Md_isLong (d := d + 9) (fun n en hn ex => ⟨fun q => absurd q (by decide), fun _ => q_Md_isSet (d := d + 9) ha hV (fun wn ei hi ey => ⟨fun _ => ?_, fun q => absurd q (by decide)⟩) (fun ei => ⟨fun q => absurd rfl q, fun _ => no (by simp only [o_bars, en, ei])⟩)⟩) fun en => ⟨fun _ => no (by simp only [o_bars, en]), fun q => absurd rfl q⟩)
  subst ex ey
  refine q_Md_findsPlans ha hV hn hi fun I' hF hM => ?_
  have b := (nz_pln_b (wn := wn) hV hn).1.2.2.2
  have := h I' hF
  simp only [o_bars, en, ei] at this
  obtain ⟨d1, d2, -⟩ := nz_dif wn hi _ b
  have key : ∀ n' o, o + n' = a 0 → Q (nz_bar (wn &&& (63 - (nz_pln a n wn).2.2.2.2)) o n') I' → ny_g (d + 11) m_Md_bars 25 [(0, .ref 102), (2, .int (nI wn)), (3, .int (nI o))] [] Ln I' (ny_r1 Ln Q) := by
    intro n'
    induction n' with
    | zero =>
      intro o ho hQ
      refine s_Md_bars_25 ?_
      simp (disch := omega) only [ny_lit, nI_add, ny_mul, nI_clamp, ny_le, ny_lt, ny_eq, ny_div, ny_rem, ny_rem2, ny_inN, hF.1 _, true_and]
      refine ⟨fun _ => ?_, fun q => absurd q (by omega)⟩
      rw [show -nI 3 = nI 4294967293 from ny_m3]; exact hQ
    | succ n' ih =>
      intro o ho hQ
      rw [nz_bar] at hQ
      refine s_Md_bars_25 ?_
      rw [hM.2.2.2.2.1, d1]
      have b1 := nz_bsh _ d2 o (by omega)
      simp (disch := omega) only [ny_lit, nI_add, ny_mul, nI_clamp, ny_le, ny_lt, ny_eq, ny_div, ny_rem, ny_rem2, ny_inN, hF.1 _, true_and]
      refine ⟨fun q => absurd q (by omega), fun _ => ⟨fun c => ?_, fun c => ?_⟩⟩
      · rw [if_neg (fun q => c (b1.mpr q))] at hQ
        exact ih (o + 1) (by omega) hQ
      · rw [if_pos (b1.mp c)] at hQ
        exact hQ
  exact key (a 0) 0 (by omega) this
end NZPM
