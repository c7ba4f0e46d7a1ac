/-! the class: one ring -/
def nz_U (a : ny_a) : nz_st := fun q => decide (q < a 0) && ny_upb a q
theorem nz_nr3 : ∀ x, x < 6 → ∀ y, y < 6 → (nz_nr x y = true ↔ ((if (0 : Int32) ≤ nI x - nI y then nI x - nI y else 0 - (nI x - nI y)) ≤ (1 : Int32) ∨ (if (0 : Int32) ≤ nI x - nI y then nI x - nI y else 0 - (nI x - nI y)) = (5 : Int32))) := by decide +kernel
theorem nz_or2 : ∀ m, m < 64 → ∀ m', m' < 64 → (nI m ||| nI m' = nI (m ||| m') ∧ m ||| m' < 64) := by decide +kernel
theorem nz_and1 : ∀ m, m < 64 → ∀ k, k < 6 → (nI m &&& ((1 : Int32) <<< (nI k &&& 31)) = nI (m &&& 2 ^ k) ∧ m &&& 2 ^ k < 64 ∧ ∀ q, q < 6 → (m &&& 2 ^ k).testBit q = (m.testBit q && decide (q = k))) := by decide +kernel
theorem nz_rg_S {a : ny_a} {k : Nat} (hk : k < a 0) (h0 : a 0 ≤ 6) : nz_rg a k = nz_Sr (nz_R a) (a 0) (fun q => nz_U a q && decide (q = k)) (a 0 - 1) := by
  have hR : ∀ i q, nz_R a i q = true → q < a 0 := by
    intro i q h
    unfold nz_R at h
    simp only [Bool.and_eq_true, decide_eq_true_eq] at h
    exact h.1
  unfold nz_rg
  by_cases c : ny_upb a k = true
  · have e1 : (fun q => decide (q = k) && ny_upb a k) = (fun q => decide (q = k)) := by
      funext q; rw [c, Bool.and_true]
    have e2 : (fun q => nz_U a q && decide (q = k)) = (fun q => decide (q = k)) := by
      funext q
      by_cases e : q = k
      · subst e; simp [nz_U, c, hk]
      · simp [e]
    rw [e1, e2]
    exact (nz_ring_eq hR hk (by omega) (by omega)).1
  · simp only [Bool.not_eq_true] at c
    have e1 : (fun q => decide (q = k) && ny_upb a k) = (fun _ => false) := by
      funext q; rw [c, Bool.and_false]
    have e2 : (fun q => nz_U a q && decide (q = k)) = (fun _ => false) := by
      funext q
      by_cases e : q = k
      · subst e; simp [nz_U, c]
      · simp [e]
    have hc : nz_cd (nz_R a) (a 0) (fun _ => false) := fun i _ h => by simp at h
    rw [e1, e2, nz_Sr_id hc]
    exact nz_le_a (nz_Tr_cd hc 6 _ fun q h => h) (nz_Tr_le 6 _)
section NZRC
variable {d Ln : Nat} {I : ny_I} {Q : Int32 → ny_I → Prop} {Q0 : ny_I → Prop} {a : ny_a} {c : Nat}
theorem q_Ba_areClose {i j : Nat} (hB : ny_Ba I a) (hV : ny_V a) (hi : i < a 0) (hj : j < a 0) (h : Q (if nz_nr (a (11 + 5 * i)) (a (11 + 5 * j)) = true then nI 1 else nI 0) I) : ny_C1 d m_Ba_areClose [.ref 6, .int (nI i), .int (nI j)] Ln I Q := by
  have V1 := hV.1; have V2 := hV.2.1; have V3 := hV.2.2.1; have V4 := hV.2.2.2.1; have V5 := hV.2.2.2.2.1; obtain ⟨v0, v1, v2, v3, v5, v6, v7⟩ := V1
  have U := V2 i (by omega)
  have U2 := V2 j (by omega)
  have n := nz_nr3 (a (11 + 5 * i)) (by omega) (a (11 + 5 * j)) (by omega)
  have e1 := (hB.2.1 i hi).2.2
  have e2 := (hB.2.1 j hj).2.2
  refine s_Ba_areClose_0 ?_
  rw [nI_clamp (by omega), nI_clamp (by omega), e1, e2, ny_inN (by omega) (by decide), ny_inN (by omega) (by decide)]
  refine ⟨rfl, rfl, fun c3 => ?_, fun c3 => ⟨fun c4 => ?_, fun c4 => ?_⟩⟩
  · rw [if_pos (n.mpr (Or.inl c3))] at h; exact h
  · rw [if_neg (fun q => (n.mp q).elim c3 c4)] at h; exact h
  · rw [if_pos (n.mpr (Or.inr c4))] at h; exact h
theorem q_Ba_upSet (hB : ny_Ba I a) (hM : ny_Mo I 7 a) (hV : ny_V a) (h : ∀ m, nz_mk m (nz_U a) → Q (nI m) I) : ny_C1 (d + 2) m_Ba_upSet [.ref 6, .ref 7] Ln I Q := by
  have V1 := hV.1; have V2 := hV.2.1; have V3 := hV.2.2.1; have V4 := hV.2.2.2.1; have V5 := hV.2.2.2.2.1; obtain ⟨v0, v1, v2, v3, v5, v6, v7⟩ := V1
  have key : ∀ n o m, o + n = a 0 → nz_mk m (fun q => decide (q < o) && nz_U a q) → ny_g (d + 2) m_Ba_upSet 4 [(0, .ref 6), (1, .ref 7), (2, .int (nI m)), (3, .int (nI o))] [] Ln I (ny_r1 Ln Q) := by
    intro n
    induction n with
    | zero =>
      intro o m ho hm
      refine s_Ba_upSet_4 nz_m7 ?_
      rw [hB.1.1]
      simp (disch := omega) only [ny_lit, nI_add, ny_mul, nI_clamp, ny_le, ny_lt, ny_eq, ny_div, ny_rem, ny_rem2, ny_inN]
      refine ⟨fun _ => h m ⟨hm.1, fun q hq => ?_⟩, fun q => absurd q (by omega)⟩
      rw [hm.2 q hq]
      show (decide (q < o) && (decide (q < a 0) && ny_upb a q)) = (decide (q < a 0) && ny_upb a q)
      rw [show o = a 0 by omega]
      cases decide (q < a 0) <;> rfl
    | succ n ih =>
      intro o m ho hm
      have ho6 : o < 6 := by omega
      have b2 : nI m ||| nI 1 <<< (nI o &&& nI 31) = nI (m ||| 2 ^ o) := nz_bon m hm.1 o ho6
      refine s_Ba_upSet_4 nz_m7 ?_
      rw [hB.1.1]
      simp (disch := omega) only [ny_lit, nI_add, ny_mul, nI_clamp, ny_le, ny_lt, ny_eq, ny_div, ny_rem, ny_rem2, ny_inN, b2]
      refine ⟨fun q => absurd q (by omega), fun _ => q_Ba_isUp nz_m7 hB hM hV (by omega) ?_⟩
      by_cases c : ny_upb a o = true
      · rw [if_pos c]
        refine ⟨fun q => absurd q (by decide), fun _ => ?_⟩
        obtain ⟨t1, t2⟩ := nz_bon_t m hm.1 o ho6
        refine ih (o + 1) _ (by omega) ⟨t1, fun q hq => ?_⟩
        rw [t2 q hq, hm.2 q hq]
        show ((decide (q < o) && nz_U a q) || decide (q = o)) = (decide (q < o + 1) && nz_U a q)
        by_cases e : q = o
        · subst e; simp [nz_U, c]; omega
        · have : decide (q < o + 1) = decide (q < o) := by rw [decide_eq_decide]; omega
          rw [this]; simp [e]
      · rw [if_neg c]
        refine ⟨fun _ => ih (o + 1) m (by omega) ⟨hm.1, fun q hq => ?_⟩, fun q => absurd rfl q⟩
        rw [hm.2 q hq]
        show (decide (q < o) && nz_U a q) = (decide (q < o + 1) && nz_U a q)
        by_cases e : q = o
        · subst e; simp [nz_U, c]
        · have : decide (q < o + 1) = decide (q < o) := by rw [decide_eq_decide]; omega
          rw [this]
  refine s_Ba_upSet_0 nz_m7 ?_
  exact key (a 0) 0 0 (by omega) ⟨by decide, fun q hq => by simp⟩
theorem q_Ba_closeTo {i u : Nat} (hB : ny_Ba I a) (hV : ny_V a) (hi : i < a 0) (hu : nz_mk u (nz_U a)) (hui : ny_upb a i = true) (h : ∀ m, nz_mk m (nz_R a i) → Q (nI m) I) : ny_C1 (d + 1) m_Ba_closeTo [.ref 6, .int (nI i), .int (nI u)] Ln I Q := by
  have V1 := hV.1; have V2 := hV.2.1; have V3 := hV.2.2.1; have V4 := hV.2.2.2.1; have V5 := hV.2.2.2.2.1; obtain ⟨v0, v1, v2, v3, v5, v6, v7⟩ := V1
  have key : ∀ n o m, o + n = a 0 → nz_mk m (fun q => decide (q < o) && nz_R a i q) → ny_g (d + 1) m_Ba_closeTo 5 [(0, .ref 6), (1, .int (nI i)), (2, .int (nI u)), (3, .int (nI m)), (4, .int (nI o))] [] Ln I (ny_r1 Ln Q) := by
    intro n
    induction n with
    | zero =>
      intro o m ho hm
      refine s_Ba_closeTo_5 ?_
      rw [hB.1.1]
      simp (disch := omega) only [ny_lit, nI_add, ny_mul, nI_clamp, ny_le, ny_lt, ny_eq, ny_div, ny_rem, ny_rem2, ny_inN]
      refine ⟨fun _ => h m ⟨hm.1, fun q hq => ?_⟩, fun q => absurd q (by omega)⟩
      rw [hm.2 q hq]
      show (decide (q < o) && (decide (q < a 0) && _)) = (decide (q < a 0) && _)
      rw [show o = a 0 by omega]
      cases decide (q < a 0) <;> rfl
    | succ n ih =>
      intro o m ho hm
      have ho6 : o < 6 := by omega
      have b1 : (nI u &&& nI 1 <<< (nI o &&& nI 31) = nI 0 ↔ u.testBit o = false) := nz_bit u hu.1 o ho6
      have b2 : nI m ||| nI 1 <<< (nI o &&& nI 31) = nI (m ||| 2 ^ o) := nz_bon m hm.1 o ho6
      have hUo : u.testBit o = ny_upb a o := by
        rw [hu.2 o ho6]; unfold nz_U; rw [decide_eq_true (by omega), Bool.true_and]
      have hRo : nz_R a i o = (ny_upb a o && nz_nr (a (11 + 5 * i)) (a (11 + 5 * o))) := by
        unfold nz_R; rw [decide_eq_true (by omega), hui, Bool.true_and, Bool.true_and]
      have off : nz_R a i o = false → ny_g (d + 1) m_Ba_closeTo 5 [(0, .ref 6), (1, .int (nI i)), (2, .int (nI u)), (3, .int (nI m)), (4, .int (nI (o + 1)))] [] Ln I (ny_r1 Ln Q) := by
        intro c
        refine ih (o + 1) m (by omega) ⟨hm.1, fun q hq => ?_⟩
        rw [hm.2 q hq]
        show (decide (q < o) && nz_R a i q) = (decide (q < o + 1) && nz_R a i q)
        by_cases e : q = o
        · subst e; simp [c]
        · have : decide (q < o + 1) = decide (q < o) := by rw [decide_eq_decide]; omega
          rw [this]
      refine s_Ba_closeTo_5 ?_
      rw [hB.1.1]
      simp (disch := omega) only [ny_lit, nI_add, ny_mul, nI_clamp, ny_le, ny_lt, ny_eq, ny_div, ny_rem, ny_rem2, ny_inN, b1, b2, hUo]
      refine ⟨fun q => absurd q (by omega), fun _ => ⟨fun c => ?_, fun c => q_Ba_areClose hB hV hi (by omega) ?_⟩⟩
      · exact off (by rw [hRo, c]; rfl)
      · simp only [Bool.not_eq_false] at c
        rw [c, Bool.true_and] at hRo
        by_cases c2 : nz_nr (a (11 + 5 * i)) (a (11 + 5 * o)) = true
        · rw [if_pos c2]
          refine ⟨fun q => absurd q (by decide), fun _ => ?_⟩
          rw [c2] at hRo
          obtain ⟨t1, t2⟩ := nz_bon_t m hm.1 o ho6
          refine ih (o + 1) _ (by omega) ⟨t1, fun q hq => ?_⟩
          rw [t2 q hq, hm.2 q hq]
          show ((decide (q < o) && nz_R a i q) || decide (q = o)) = (decide (q < o + 1) && nz_R a i q)
          by_cases e : q = o
          · subst e; simp [hRo]
          · have : decide (q < o + 1) = decide (q < o) := by rw [decide_eq_decide]; omega
            rw [this]; simp [e]
        · rw [if_neg c2]
          simp only [Bool.not_eq_true] at c2
          rw [c2] at hRo
          exact ⟨fun _ => off hRo, fun q => absurd rfl q⟩
  exact s_Ba_closeTo_0 (key (a 0) 0 0 (by omega) ⟨by decide, fun q hq => by simp⟩)
theorem q_Ba_ringOf {k : Nat} (hB : ny_Ba I a) (hM : ny_Mo I 7 a) (hV : ny_V a) (hk : k < a 0) (h : ∀ m, nz_mk m (nz_rg a k) → Q (nI m) I) : ny_C1 (d + 3) m_Ba_ringOf [.ref 6, .int (nI k)] Ln I Q := by
  have V1 := hV.1; have V2 := hV.2.1; have V3 := hV.2.2.1; have V4 := hV.2.2.2.1; have V5 := hV.2.2.2.2.1; obtain ⟨v0, v1, v2, v3, v5, v6, v7⟩ := V1
  refine s_Ba_ringOf_0 (q_Ba_upSet hB hM hV fun u hu => ?_)
  have k33 : ∀ (m r : Nat) (s : nz_st), nz_mk m s → nz_le s (nz_U a) → ∀ n o w (t : nz_st), o + n = a 0 → nz_mk w t → (∀ m', nz_mk m' (nz_Sp (nz_R a) s t o n) → ny_g (d + 3) m_Ba_ringOf 18 [(0, .ref 6), (2, .int (nI u)), (3, .int (nI m')), (4, .int (nI (r + 1)))] [] Ln I (ny_r1 Ln Q)) → ny_g (d + 3) m_Ba_ringOf 33 [(0, .ref 6), (2, .int (nI u)), (3, .int (nI m)), (4, .int (nI r)), (5, .int (nI w)), (6, .int (nI o))] [] Ln I (ny_r1 Ln Q) := by
    intro m r s hm hs n
    induction n with
    | zero =>
      intro o w t ho hw hN
      refine s_Ba_ringOf_33 ?_
      rw [hB.1.1]
      simp (disch := omega) only [ny_lit, nI_add, ny_mul, nI_clamp, ny_le, ny_lt, ny_eq, ny_div, ny_rem, ny_rem2, ny_inN]
      exact ⟨fun _ => hN w hw, fun q => absurd q (by omega)⟩
    | succ n ih =>
      intro o w t ho hw hN
      have ho6 : o < 6 := by omega
      have b1 : (nI m &&& nI 1 <<< (nI o &&& nI 31) = nI 0 ↔ m.testBit o = false) := nz_bit m hm.1 o ho6
      refine s_Ba_ringOf_33 ?_
      rw [hB.1.1]
      simp (disch := omega) only [ny_lit, nI_add, ny_mul, nI_clamp, ny_le, ny_lt, ny_eq, ny_div, ny_rem, ny_rem2, ny_inN, b1, hm.2 o ho6]
      refine ⟨fun q => absurd q (by omega), fun _ => ⟨fun c => ?_, fun c => ?_⟩⟩
      · refine ih (o + 1) w _ (by omega) ⟨hw.1, fun q hq => ?_⟩ hN
        rw [hw.2 q hq, c]; simp
      · simp only [Bool.not_eq_false] at c
        have hU := hs o c
        unfold nz_U at hU
        simp only [Bool.and_eq_true] at hU
        refine q_Ba_closeTo hB hV (by omega) hu hU.2 fun m2 hm2 => ?_
        obtain ⟨e1, e2⟩ := nz_or2 w hw.1 m2 hm2.1
        rw [e1]
        refine ih (o + 1) _ _ (by omega) ⟨e2, fun q hq => ?_⟩ hN
        rw [Nat.testBit_or, hw.2 q hq, hm2.2 q hq, c]; simp
  have k18 : ∀ n r m (s : nz_st), r + n = a 0 → nz_mk m s → nz_le s (nz_U a) → (∀ m', nz_mk m' (nz_Sr (nz_R a) (a 0) s n) → Q (nI m') I) → ny_g (d + 3) m_Ba_ringOf 18 [(0, .ref 6), (2, .int (nI u)), (3, .int (nI m)), (4, .int (nI r))] [] Ln I (ny_r1 Ln Q) := by
    intro n
    induction n with
    | zero =>
      intro r m s hr hm hs hN
      refine s_Ba_ringOf_18 ?_
      rw [hB.1.1]
      simp (disch := omega) only [ny_lit, nI_add, ny_mul, nI_clamp, ny_le, ny_lt, ny_eq, ny_div, ny_rem, ny_rem2, ny_inN]
      exact ⟨fun _ => hN m hm, fun q => absurd q (by omega)⟩
    | succ n ih =>
      intro r m s hr hm hs hN
      refine s_Ba_ringOf_18 ?_
      rw [hB.1.1]
      simp (disch := omega) only [ny_lit, nI_add, ny_mul, nI_clamp, ny_le, ny_lt, ny_eq, ny_div, ny_rem, ny_rem2, ny_inN]
      refine ⟨fun q => absurd q (by omega), fun _ => k33 m r s hm hs (a 0) 0 m s (by omega) hm fun m' hm' => ih (r + 1) m' _ (by omega) hm' (fun q hq => ?_) hN⟩
      rcases nz_Sp_of s (a 0) 0 s q hq with h1 | ⟨i, _, _, _, h4⟩
      · exact hs q h1
      · unfold nz_R at h4
        unfold nz_U
        simp only [Bool.and_eq_true] at h4 ⊢
        exact ⟨h4.1, h4.2.2.1⟩
  obtain ⟨e1, e2, e3⟩ := nz_and1 u hu.1 k (by omega)
  rw [e1]
  refine k18 (a 0 - 1) 1 _ (fun q => nz_U a q && decide (q = k)) (by omega) ⟨e2, fun q hq => by rw [e3 q hq, hu.2 q hq]⟩ (fun q hq => ?_) fun m hm => h m (by rw [nz_rg_S hk v0]; exact hm)
  simp only [Bool.and_eq_true] at hq
  exact hq.1
end NZRC
