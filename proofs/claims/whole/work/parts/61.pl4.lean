/-! the class: best, ith, ways, rosters, bars -/
theorem nz_sb1 : ∀ c, c < 7 → ∀ i, i < 32 → bt ((-1 : Int32) <<< (nI c &&& 31)) i = !(bt (nI (2 ^ c - 1)) i) := by decide +kernel
theorem nz_sb2 : ∀ c, c < 7 → ∀ m, m < 64 → m < 2 ^ c → nI m &&& ((-1 : Int32) <<< (nI c &&& 31)) = 0 := by decide +kernel
theorem nz_sb3 : ∀ c, c < 7 → (nI (2 ^ c - 1)).toBitVec.toNat = 2 ^ c - 1 := by decide +kernel
theorem nz_sb {c : Nat} (hc : c < 7) {x : Int32} (h : x &&& ((-1 : Int32) <<< (nI c &&& 31)) = 0) : ∃ m, m < 2 ^ c ∧ x = nI m := by
  have e : x = x &&& nI (2 ^ c - 1) := by
    apply b_ext
    intro i hi
    have h1 : bt (x &&& ((-1 : Int32) <<< (nI c &&& 31))) i = bt 0 i := by rw [h]
    rw [b_and, nz_sb1 c hc i hi, b_0] at h1
    rw [b_and]
    cases h2 : bt x i with
    | false => rfl
    | true => rw [h2] at h1; simpa using h1
  rw [pk_and x c (nz_sb3 c hc)] at e
  exact ⟨_, Nat.mod_lt _ (Nat.two_pow_pos c), e⟩
section NZPN
variable {d Ln : Nat} {I : ny_I} {Q : Int32 → ny_I → Prop} {Q0 : ny_I → Prop} {a : ny_a}
theorem nz_cp_r (h : ny_Cl I a) : nz_cp I I a := ⟨h, fun _ _ => rfl⟩
theorem q_Ba_isSet {x : Int32} (hB : ny_Ba I a) (hV : ny_V a) (h1 : ∀ m, nz_set a x = some m → m < 64 → x = nI m → Q (nI 1) I) (h0 : nz_set a x = none → Q (nI 0) I) : ny_C1 d m_Ba_isSet [.ref 6, .int x] Ln I Q := by
  have v := hV.1
  have p := nz_pw6 (a 0) v.1
  refine s_Ba_isSet_0 ?_
  rw [hB.1.1]
  refine ⟨fun c => h0 (nz_in_n (by decide) (by omega) fun m _ hm e => c ?_), fun c => ?_⟩
  · rw [e]; exact nz_sb2 (a 0) (by omega) m (by omega) (by omega)
  · obtain ⟨m, hm, e⟩ := nz_sb (c := a 0) (by omega) c
    exact h1 m (nz_in_s (by decide) (by omega) (by omega) (by omega) e) (by omega) e
theorem q_No_best {x : Int32} (hC : ny_Cl I a) (hV : ny_V a) (h : ∀ I', nz_cp I' I a → Q (o_best x a) I') : ny_C1 (d + 11) m_No_best [.ref 5, .int x] Ln I Q := by
  refine s_No_best_0 (q_No_I 0 4 rfl rfl (by decide) (by decide) (fun n en _ hn ex => ⟨fun _ => ?_, fun q => absurd q (by decide)⟩) fun en => ⟨fun q => absurd rfl q, fun _ => ?_⟩)
  · subst ex
    refine q_Pl_tryAll (wn := 0) hC hV hn (by decide) fun I' hF hM => ?_
    have := h I' hF
    simp only [o_best, en] at this
    rw [hM.2.2.1]; exact this
  · simp only [o_best, en] at h
    rw [ny_m1]; exact h I (nz_cp_r hC)
theorem q_No_ways {x : Int32} (hC : ny_Cl I a) (hV : ny_V a) (h : ∀ I', nz_cp I' I a → Q (o_ways x a) I') : ny_C1 (d + 11) m_No_ways [.ref 5, .int x] Ln I Q := by
  refine s_No_ways_0 (q_No_I 0 4 rfl rfl (by decide) (by decide) (fun n en _ hn ex => ⟨fun _ => ?_, fun q => absurd q (by decide)⟩) fun en => ⟨fun q => absurd rfl q, fun _ => ?_⟩)
  · subst ex
    refine q_Pl_tryAll (wn := 0) hC hV hn (by decide) fun I' hF hM => ?_
    have := h I' hF
    simp only [o_ways, en] at this
    rw [hM.2.2.2.1]; exact this
  · simp only [o_ways, en] at h
    rw [ny_m1]; exact h I (nz_cp_r hC)
theorem q_No_ith {x y : Int32} (hC : ny_Cl I a) (hV : ny_V a) (h : ∀ I', nz_cp I' I a → Q (o_ith x y a) I') : ny_C1 (d + 11) m_No_ith [.ref 5, .int x, .int y] Ln I Q := by
  have no : o_ith x y a = nI 4294967295 → Q (-1 : Int32) I := by
    intro e
    rw [ny_m1, ← e]; exact h I (nz_cp_r hC)
  refine s_No_ith_0 (q_No_I 0 4 rfl rfl (by decide) (by decide) (fun n en _ hn ex => ⟨fun q => absurd q (by decide), fun _ => q_No_I 0 3 rfl rfl (by decide) (by decide) (fun i ei _ hi ey => ⟨fun _ => ?_, fun q => absurd q (by decide)⟩) (fun ei => ⟨fun q => absurd rfl q, fun _ => no (by simp only [o_ith, en, ei])⟩)⟩) fun en => ⟨fun _ => no (by simp only [o_ith, en]), fun q => absurd rfl q⟩)
  subst ex ey
  refine q_Pl_tryAll (wn := 0) hC hV hn (by decide) fun I' hF hM => ?_
  have b := nz_pln_b (wn := 0) hV hn
  have := h I' hF
  simp only [o_ith, en, ei] at this
  have m2 := hM.2.2.2.2.2.2 (by omega)
  rw [hM.2.1]
  simp (disch := omega) only [ny_lit, nI_add, ny_mul, nI_clamp, ny_le, ny_lt, ny_eq, ny_div, ny_rem, ny_rem2, ny_inN, true_and]
  refine ⟨fun c => ?_, fun c => ?_⟩
  · rw [if_pos c] at this
    rw [show -nI 3 = nI 4294967293 from ny_m3]; exact this
  · rw [if_neg c] at this
    rw [m2 i (by omega)]; exact this
theorem q_No_roster {x y : Int32} (hC : ny_Cl I a) (hV : ny_V a) (h : ∀ I', nz_cp I' I a → Q (o_roster x y a) I') : ny_C1 (d + 11) m_No_roster [.ref 5, .int x, .int y] Ln I Q := by
  have no : o_roster x y a = nI 4294967295 → Q (-1 : Int32) I := by
    intro e
    rw [ny_m1, ← e]; exact h I (nz_cp_r hC)
  refine s_No_roster_0 (q_No_I 0 4 rfl rfl (by decide) (by decide) (fun n en _ hn ex => ⟨fun q => absurd q (by decide), fun _ => q_Ba_isSet hC.1 hV (fun wn ei hi ey => ⟨fun _ => ?_, fun q => absurd q (by decide)⟩) (fun ei => ⟨fun q => absurd rfl q, fun _ => no (by simp only [o_roster, en, ei])⟩)⟩) fun en => ⟨fun _ => no (by simp only [o_roster, en]), fun q => absurd rfl q⟩)
  subst ex ey
  refine q_Pl_tryAll hC hV hn hi fun I' hF hM => ?_
  have b := (nz_pln_b (wn := wn) hV hn).1.2.2.1
  have := h I' hF
  simp only [o_roster, en, ei] at this
  rw [hM.2.2.2.2.1]
  by_cases c : (nz_pln a n wn).2.2.2.1 = 9
  · rw [if_pos c]
    rw [if_pos (by omega)] at this; exact this
  · rw [if_neg c]
    rw [if_neg (by omega)] at this; exact this
theorem q_No_bars {x y : Int32} (hC : ny_Cl I a) (hV : ny_V a) (h : ∀ I', nz_cp I' I a → Q (o_bars x y a) I') : ny_C1 (d + 11) m_No_bars [.ref 5, .int x, .int y] Ln I Q := by
  have V1 := hV.1; have V2 := hV.2.1; have V3 := hV.2.2.1; have V4 := hV.2.2.2.1; have V5 := hV.2.2.2.2.1; obtain ⟨v0, v1, v2, v3, v5, v6, v7⟩ := V1
  have no : o_bars x y a = nI 4294967295 → Q (-1 : Int32) I := by
    intro e
    rw [ny_m1, ← e]; exact h I (nz_cp_r hC)
  refine s_No_bars_0 (q_No_I 0 4 rfl rfl (by decide) (by decide) (fun n en _ hn ex => ⟨fun q => absurd q (by decide), fun _ => q_Ba_isSet hC.1 hV (fun wn ei hi ey => ⟨fun _ => ?_, fun q => absurd q (by decide)⟩) (fun ei => ⟨fun q => absurd rfl q, fun _ => no (by simp only [o_bars, en, ei])⟩)⟩) fun en => ⟨fun _ => no (by simp only [o_bars, en]), fun q => absurd rfl q⟩)
  subst ex ey
  refine q_Pl_tryAll hC hV hn hi fun I' hF hM => ?_
  have b := (nz_pln_b (wn := wn) hV hn).1.2.2.2
  have := h I' hF
  simp only [o_bars, en, ei] at this
  obtain ⟨d1, d2, -⟩ := nz_dif wn hi _ b
  rw [hM.2.2.2.2.2.1, d1]
  have key : ∀ n' o, o + n' = a 0 → Q (nz_bar (wn &&& (63 - (nz_pln a n wn).2.2.2.2)) o n') I' → ny_g (d + 11) m_No_bars 50 [(0, .ref 5), (3, .int (nI (wn &&& (63 - (nz_pln a n wn).2.2.2.2)))), (4, .int (nI o))] [] Ln I' (ny_r1 Ln Q) := by
    intro n'
    induction n' with
    | zero =>
      intro o ho hQ
      refine s_No_bars_50 ?_
      rw [hF.1.1.1.1]
      simp (disch := omega) only [ny_lit, nI_add, ny_mul, nI_clamp, ny_le, ny_lt, ny_eq, ny_div, ny_rem, ny_rem2, ny_inN]
      refine ⟨fun _ => ?_, fun q => absurd q (by omega)⟩
      rw [show -nI 3 = nI 4294967293 from ny_m3]; exact hQ
    | succ n' ih =>
      intro o ho hQ
      rw [nz_bar] at hQ
      have b1 := nz_bit _ d2 o (by omega)
      refine s_No_bars_50 ?_
      rw [hF.1.1.1.1, b1]
      simp (disch := omega) only [ny_lit, nI_add, ny_mul, nI_clamp, ny_le, ny_lt, ny_eq, ny_div, ny_rem, ny_rem2, ny_inN]
      refine ⟨fun q => absurd q (by omega), fun _ => ⟨fun c => ?_, fun c => ?_⟩⟩
      · rw [if_neg (by rw [c]; decide)] at hQ
        exact ih (o + 1) (by omega) hQ
      · rw [if_pos (by simpa using c)] at hQ
        exact hQ
  exact key (a 0) 0 (by omega) this
end NZPN
