/-! both: anew -/
def nz_anx (a : ny_a) (n : Nat) : ny_a := fun j => if 9 ≤ j ∧ j < 9 + 5 * n ∧ ((j - 9) % 5 = 0 ∨ (j - 9) % 5 = 3) then 0 else a j
def o_anew (a : ny_a) : Int32 × ny_a := (nI (a 1), ny_au (ny_au (nz_anx a (a 0)) 3 0) 1 0)
theorem nz_anx_s (a : ny_a) (o : Nat) : ny_au (ny_au (nz_anx a o) (9 + 5 * o) 0) (12 + 5 * o) 0 = nz_anx a (o + 1) := by
  funext j
  unfold ny_au nz_anx
  by_cases e : j = 12 + 5 * o
  · rw [if_pos e, if_pos (by omega)]
  · rw [if_neg e]
    by_cases e2 : j = 9 + 5 * o
    · rw [if_pos e2, if_pos (by omega)]
    · rw [if_neg e2]
      by_cases c : 9 ≤ j ∧ j < 9 + 5 * o ∧ ((j - 9) % 5 = 0 ∨ (j - 9) % 5 = 3)
      · rw [if_pos c, if_pos (by omega)]
      · rw [if_neg c, if_neg (by omega)]
theorem nz_anx_0 (a : ny_a) : nz_anx a 0 = a := by
  funext j
  unfold nz_anx
  rw [if_neg (by omega)]
theorem nz_anx_o {a : ny_a} {n j : Nat} (h : j < 9 ∨ 9 + 5 * n ≤ j ∨ ((j - 9) % 5 ≠ 0 ∧ (j - 9) % 5 ≠ 3)) : nz_anx a n j = a j := by
  unfold nz_anx
  rw [if_neg (by omega)]
theorem nz_anx_z {a : ny_a} {n k : Nat} (h : k < n) : nz_anx a n (9 + 5 * k) = 0 ∧ nz_anx a n (12 + 5 * k) = 0 := by
  unfold nz_anx
  rw [if_pos (by omega), if_pos (by omega)]
  exact ⟨rfl, rfl⟩
theorem nz_anw_V {a : ny_a} (hV : ny_V a) {x : Nat} : ny_V (ny_au (ny_au (nz_anx a (a 0)) 3 x) 1 0) ∧ ny_Sm (ny_au (ny_au (nz_anx a (a 0)) 3 x) 1 0) a := by
  have v := hV.1
  have hs : ny_Sm (ny_au (ny_au (nz_anx a (a 0)) 3 x) 1 0) a := fun j h1 h3 h => by
    rw [nz_au_ne h1, nz_au_ne h3]
    refine nz_anx_o ?_
    by_cases c : 9 ≤ j ∧ j < 39
    · have := h ((j - 9) / 5) (by omega)
      omega
    · omega
  refine ⟨nz_V_mv hV hs (by rw [nz_au_eq]; omega) fun k hk => ?_, hs⟩
  have := hV.2.1 k hk
  rw [nz_au_ne (by omega), nz_au_ne (by omega), nz_au_ne (by omega), nz_au_ne (by omega)]
  unfold nz_anx
  constructor <;> split <;> omega
section NZOT
variable {d Ln : Nat} {I : ny_I} {Q : Int32 → ny_I → Prop} {Q0 : ny_I → Prop} {a : ny_a}
theorem q_Md_anew (ha : ny_Md I a) (hV : ny_V a) (h : ∀ I', nz_af 0 I' I (o_anew a).2 → Q (o_anew a).1 I') : ny_C1 (d + 1) m_Md_anew [.ref 102] Ln I Q := by
  have V1 := hV.1; have V2 := hV.2.1; have V3 := hV.2.2.1; have V4 := hV.2.2.2.1; have V5 := hV.2.2.2.2.1; obtain ⟨v0, v1, v2, v3, v5, v6, v7⟩ := V1
  have key : ∀ n o I1, o + n = a 0 → nz_af 0 I1 I (nz_anx a o) → ny_g (d + 1) m_Md_anew 2 [(0, .ref 102), (1, .int (nI o))] [] Ln I1 (ny_r1 Ln Q) := by
    intro n
    induction n with
    | zero =>
      intro o I1 ho hA
      have e0 : nz_anx a o 0 = a 0 := nz_anx_o (by omega)
      refine s_Md_anew_2 ?_
      simp (disch := omega) only [ny_lit, nI_add, ny_mul, nI_clamp, ny_le, ny_lt, ny_eq, ny_div, ny_rem, ny_rem2, ny_inN, hA.1 _, true_and, e0]
      refine ⟨fun _ => ?_, fun q => absurd q (by omega)⟩
      refine q_Md_becomes (nz_Md_up hA.1 3 0) (by decide) fun I' h' => ?_
      have := h I' ⟨?_, fun c x y => ?_, fun j hj => absurd hj (by omega)⟩
      · rw [nz_au_ne (by decide), nz_anx_o (by omega)]
        exact this
      · rw [show o = a 0 by omega] at h'; exact h'.1
      · rw [h'.2.1 c x y, ny_upne _ x]; exact hA.2.1 c x y
    | succ n ih =>
      intro o I1 ho hA
      have e0 : nz_anx a o 0 = a 0 := nz_anx_o (by omega)
      have e1 : 8 + 5 * o + 1 = 9 + 5 * o := by omega
      have e4 : 8 + 5 * o + 4 = 12 + 5 * o := by omega
      refine s_Md_anew_2 ?_
      simp (disch := omega) only [ny_lit, nI_add, ny_mul, nI_clamp, ny_le, ny_lt, ny_eq, ny_div, ny_rem, ny_rem2, ny_inN, hA.1 _, true_and, e0, e1, e4]
      refine ⟨fun q => absurd q (by omega), fun _ => ih (o + 1) _ (by omega) ⟨?_, fun c x y => ?_, fun j hj => absurd hj (by omega)⟩⟩
      · rw [← nz_anx_s]
        exact nz_Md_up (nz_Md_up hA.1 _ 0) _ 0
      · rw [ny_upne _ x, ny_upne _ x]; exact hA.2.1 c x y
  exact s_Md_anew_0 (key (a 0) 0 I (by omega) (by rw [nz_anx_0]; exact nz_af_r ha))
theorem q_Ja_fill8 (h : ∀ I', (∀ q, q ≠ 8 → I' q = I q) → (∀ i, i < 6 → I' 8 i = nI 0) → Q0 I') : ny_C0 d m_Ja_fill [.ref 8, .int (nI 0)] Ln I Q0 := by
  have key : ∀ n j I1, j + n = 6 → (∀ q, q ≠ 8 → I1 q = I q) → (∀ i, i < j → I1 8 i = nI 0) → ny_g d m_Ja_fill 5 [(0, .ref 8), (1, .int (nI 0)), (2, .int (nI j)), (3, .int (nI 6))] [] Ln I1 (ny_r0 Ln Q0) := by
    intro n
    induction n with
    | zero =>
      intro j I1 hj h1 h2
      refine s_Ja_fill_8_5 ⟨fun _ => h I1 h1 fun i hi => h2 i (by omega), fun c => ?_⟩
      rw [ny_le (by decide) (by omega)] at c
      omega
    | succ n ih =>
      intro j I1 hj h1 h2
      refine s_Ja_fill_8_5 ?_
      simp (disch := omega) only [ny_lit, nI_add, ny_mul, nI_clamp, ny_le, ny_lt, ny_eq, ny_div, ny_rem, ny_rem2, ny_inN, true_and]
      refine ⟨fun c => absurd c (by omega), fun _ => ih (j + 1) _ (by omega) (fun q hq => by rw [ny_upne _ hq]; exact h1 q hq) fun i hi => ?_⟩
      rw [ny_uprd]
      split
      · rfl
      · exact h2 i (by omega)
  exact s_Ja_fill_8_0 (key 6 0 I rfl (fun _ _ => rfl) fun i hi => absurd hi (by omega))
theorem q_No_anew (hC : ny_Cl I a) (hV : ny_V a) (h : ∀ I', nz_cf I' I (o_anew a).2 → Q (o_anew a).1 I') : ny_C1 (d + 2) m_No_anew [.ref 5] Ln I Q := by
  have V1 := hV.1; have V2 := hV.2.1; have V3 := hV.2.2.1; have V4 := hV.2.2.2.1; have V5 := hV.2.2.2.2.1; obtain ⟨v0, v1, v2, v3, v5, v6, v7⟩ := V1
  refine s_No_anew_0 (s_Mo_clear_0 nz_m7 (q_Ja_fill8 fun I1 h1 h2 => ?_))
  obtain ⟨g1, g2⟩ := nz_anw_V (x := a 3) hV
  have hF : nz_fr 7 (ny_up (ny_up I1 7 1 0) 7 2 0) I := ⟨fun q _ h7 h8 => by rw [ny_upne _ h7, ny_upne _ h7]; exact h1 q h8, fun j _ => by rw [ny_upne _ (by decide), ny_upne _ (by decide), h1 22 (by decide)]⟩
  have hM : ny_Mo (ny_up (ny_up I1 7 1 0) 7 2 0) 7 (ny_au (ny_au (nz_anx a (a 0)) 3 (a 3)) 1 0) := by
    have e0 : ny_au (ny_au (nz_anx a (a 0)) 3 (a 3)) 1 0 0 = a 0 := by
      rw [nz_au_ne (by decide), nz_au_ne (by decide), nz_anx_o (by omega)]
    refine ⟨?_, fun k hk => ?_, 0, by decide, ?_, fun k hk => ?_⟩
    · rw [ny_uprd, if_pos ⟨rfl, rfl⟩, nz_au_eq]; rfl
    · rw [e0] at hk
      rw [ny_upne _ (by decide), ny_upne _ (by decide), nz_au_ne (by omega), nz_au_ne (by omega), (nz_anx_z hk).1]
      exact h2 k (by omega)
    · rw [ny_uprd, if_neg (by decide), ny_uprd, if_pos ⟨rfl, rfl⟩]; rfl
    · rw [e0, nz_au_ne (by omega), nz_au_ne (by omega)]
      simp only [Nat.zero_testBit]
      symm
      rw [decide_eq_false]
      rintro ⟨q1, q2⟩
      rw [(nz_anx_z q1).2] at q2
      exact absurd q2 (by decide)
  have hC2 : ny_Cl (ny_up (ny_up I1 7 1 0) 7 2 0) (ny_au (ny_au (nz_anx a (a 0)) 3 (a 3)) 1 0) := by
    have e6 := hF.1 6 (by decide) (by decide) (by decide)
    refine ⟨nz_Ba_mv nz_m7 hF g2 hV hC.1, hM, ⟨?_, ?_⟩, ?_⟩
    · rw [e6, nz_au_ne (by decide), nz_au_eq]; exact hC.2.2.1.1
    · rw [e6, g2 4 (by decide) (by decide) (fun k hk => by omega)]; exact hC.2.2.1.2
    · have e : ∀ j, 38 ≤ j ∨ j = 6 → ny_au (ny_au (nz_anx a (a 0)) 3 (a 3)) 1 0 j = a j := fun j hj => g2 j (by omega) (by omega) fun k hk => by omega
      have r := hC.2.2.2
      refine ⟨?_, fun r1 hr => ?_⟩
      · rw [hF.1 23 (by decide) (by decide) (by decide), e 6 (by omega)]; exact r.1
      · rw [e 6 (by omega)] at hr
        rw [hF.1 24 (by decide) (by decide) (by decide), hF.1 25 (by decide) (by decide) (by decide), hF.1 26 (by decide) (by decide) (by decide), hF.1 27 (by decide) (by decide) (by decide), e _ (by omega), e _ (by omega), e _ (by omega), e _ (by omega)]
        exact r.2 r1 hr
  have := nz_Cl_put (o := 6) (p := 9) (i := 3) (v := 0) (by omega) g1 hC2
  have e3 : ny_au (ny_au (ny_au (nz_anx a (a 0)) 3 (a 3)) 1 0) 3 0 = ny_au (ny_au (nz_anx a (a 0)) 3 0) 1 0 := by
    funext j
    unfold ny_au
    by_cases c3 : j = 3
    · rw [if_pos c3, if_neg (by omega), if_pos c3]
    · rw [if_neg c3]
      by_cases c1 : j = 1
      · rw [if_pos c1, if_pos c1]
      · rw [if_neg c1, if_neg c3, if_neg c1, if_neg c3]
  rw [e3] at this
  have hq := h _ ⟨this, fun q hq => by rw [ny_upne _ (by omega)]; exact hF.1 q (by omega) (by omega) (by omega)⟩
  rw [hC.2.1.1]
  exact hq
end NZOT
