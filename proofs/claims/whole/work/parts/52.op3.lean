/-! both: the state -/
def nz_msk (s : nz_st) : Nat := (s 0).toNat + 2 * (s 1).toNat + 4 * (s 2).toNat + 8 * (s 3).toNat + 16 * (s 4).toNat + 32 * (s 5).toNat
theorem nz_msk_k (s : nz_st) : nz_mk (nz_msk s) s := by
  have : ∀ b0 b1 b2 b3 b4 b5 : Bool, let m := b0.toNat + 2 * b1.toNat + 4 * b2.toNat + 8 * b3.toNat + 16 * b4.toNat + 32 * b5.toNat; m < 64 ∧ m.testBit 0 = b0 ∧ m.testBit 1 = b1 ∧ m.testBit 2 = b2 ∧ m.testBit 3 = b3 ∧ m.testBit 4 = b4 ∧ m.testBit 5 = b5 := by decide
  obtain ⟨h, h0, h1, h2, h3, h4, h5⟩ := this (s 0) (s 1) (s 2) (s 3) (s 4) (s 5)
  refine ⟨h, fun q hq => ?_⟩
  have : q = 0 ∨ q = 1 ∨ q = 2 ∨ q = 3 ∨ q = 4 ∨ q = 5 := by omega
  rcases this with rfl | rfl | rfl | rfl | rfl | rfl <;> assumption
theorem nz_msk_e {m : Nat} {s : nz_st} (h : nz_mk m s) : m = nz_msk s := nz_mk_e h (nz_msk_k s)
def nz_L (a : ny_a) : nz_st := fun q => decide (q < a 0 ∧ a (12 + 5 * q) = 1)
def o_state (x : Int32) (a : ny_a) : Int32 :=
  match nz_in 0 6 x with
  | some w => if w = 0 then nI (a 1) else if w = 1 then nI (a 2) else if w = 2 then nI (a 3) else if w = 3 then (if a 2 ≤ a 1 then nI 1 else nI 0) else if w = 4 then nI (nz_msk (nz_L a)) else if w = 5 then nI (nz_W a (a 1)) else nI (nz_msk (nz_U a))
  | none => nI 4294967295
theorem nz_bsl : ∀ m, m < 64 → ∀ k, k < 6 → nI m ||| (nI 0 <<< (nI k &&& 31)) = nI m := by decide +kernel
section NZOR
variable {d Ln : Nat} {I : ny_I} {Q : Int32 → ny_I → Prop} {Q0 : ny_I → Prop} {a : ny_a}
theorem nz_mk_s {m o : Nat} {s : nz_st} (hm : nz_mk m (fun q => decide (q < o) && s q)) (ho : o < 6) : (s o = true → nz_mk (m ||| 2 ^ o) (fun q => decide (q < o + 1) && s q)) ∧ (s o = false → nz_mk m (fun q => decide (q < o + 1) && s q)) := by
  refine ⟨fun c => ?_, fun c => ⟨hm.1, fun q hq => ?_⟩⟩
  · obtain ⟨t1, t2⟩ := nz_bon_t m hm.1 o ho
    refine ⟨t1, fun q hq => ?_⟩
    rw [t2 q hq, hm.2 q hq]
    show ((decide (q < o) && s q) || decide (q = o)) = (decide (q < o + 1) && s q)
    by_cases e : q = o
    · subst e; simp [c]
    · have : decide (q < o + 1) = decide (q < o) := by rw [decide_eq_decide]; omega
      rw [this]; simp [e]
  · rw [hm.2 q hq]
    show (decide (q < o) && s q) = (decide (q < o + 1) && s q)
    by_cases e : q = o
    · subst e; simp [c]
    · have : decide (q < o + 1) = decide (q < o) := by rw [decide_eq_decide]; omega
      rw [this]
theorem nz_mk_z {m : Nat} {s : nz_st} (hm : nz_mk m (fun q => decide (q < a 0) && s q)) (hs : ∀ q, s q = true → q < a 0) : nz_mk m s := by
  refine ⟨hm.1, fun q hq => ?_⟩
  rw [hm.2 q hq]
  show (decide (q < a 0) && s q) = s q
  by_cases c : s q = true
  · rw [c, decide_eq_true (hs q c)]; rfl
  · simp only [Bool.not_eq_true] at c
    rw [c, Bool.and_false]
theorem q_Md_relievedOnes (ha : ny_Md I a) (hV : ny_V a) (h : Q (nI (nz_msk (nz_L a))) I) : ny_C1 (d + 1) m_Md_relievedOnes [.ref 102] Ln I Q := by
  have V1 := hV.1; have V2 := hV.2.1; have V3 := hV.2.2.1; have V4 := hV.2.2.2.1; have V5 := hV.2.2.2.2.1; obtain ⟨v0, v1, v2, v3, v5, v6, v7⟩ := V1
  have key : ∀ n o m, o + n = a 0 → nz_mk m (fun q => decide (q < o) && nz_L a q) → ny_g (d + 1) m_Md_relievedOnes 4 [(0, .ref 102), (1, .int (nI m)), (2, .int (nI o))] [] Ln I (ny_r1 Ln Q) := by
    intro n
    induction n with
    | zero =>
      intro o m ho hm
      refine s_Md_relievedOnes_4 ?_
      simp (disch := omega) only [ny_lit, nI_add, ny_mul, nI_clamp, ny_le, ny_lt, ny_eq, ny_div, ny_rem, ny_rem2, ny_inN, ha _, true_and]
      refine ⟨fun _ => ?_, fun q => absurd q (by omega)⟩
      rw [show o = a 0 by omega] at hm
      rw [nz_msk_e (nz_mk_z hm (fun q hq => by unfold nz_L at hq; simp at hq; exact hq.1))]; exact h
    | succ n ih =>
      intro o m ho hm
      have U := V2 o (by omega)
      have ms := nz_mk_s hm (by omega)
      refine s_Md_relievedOnes_4 ?_
      simp (disch := omega) only [ny_lit, nI_add, ny_mul, nI_clamp, ny_le, ny_lt, ny_eq, ny_div, ny_rem, ny_rem2, ny_inN, ha _, true_and]
      refine ⟨fun q => absurd q (by omega), fun _ => q_Md_t4 ha (by omega) ?_⟩
      by_cases c : a (12 + 5 * o) = 1
      · rw [c, show nI m ||| nI 1 <<< (nI o &&& nI 31) = nI (m ||| 2 ^ o) from nz_bon m hm.1 o (by omega)]
        exact ih (o + 1) _ (by omega) (ms.1 (by unfold nz_L; simp [c]; omega))
      · rw [show a (12 + 5 * o) = 0 by omega, show nI m ||| nI 0 <<< (nI o &&& nI 31) = nI m from nz_bsl m hm.1 o (by omega)]
        exact ih (o + 1) _ (by omega) (ms.2 (by unfold nz_L; simp [c]))
  exact s_Md_relievedOnes_0 (key (a 0) 0 0 (by omega) ⟨by decide, fun q hq => by simp⟩)
theorem q_Md_thoseUp (ha : ny_Md I a) (hV : ny_V a) (h : Q (nI (nz_msk (nz_U a))) I) : ny_C1 (d + 2) m_Md_thoseUp [.ref 102] Ln I Q := by
  have V1 := hV.1; have V2 := hV.2.1; have V3 := hV.2.2.1; have V4 := hV.2.2.2.1; have V5 := hV.2.2.2.2.1; obtain ⟨v0, v1, v2, v3, v5, v6, v7⟩ := V1
  have key : ∀ n o m, o + n = a 0 → nz_mk m (fun q => decide (q < o) && nz_U a q) → ny_g (d + 2) m_Md_thoseUp 4 [(0, .ref 102), (1, .int (nI m)), (2, .int (nI o))] [] Ln I (ny_r1 Ln Q) := by
    intro n
    induction n with
    | zero =>
      intro o m ho hm
      refine s_Md_thoseUp_4 ?_
      simp (disch := omega) only [ny_lit, nI_add, ny_mul, nI_clamp, ny_le, ny_lt, ny_eq, ny_div, ny_rem, ny_rem2, ny_inN, ha _, true_and]
      refine ⟨fun _ => ?_, fun q => absurd q (by omega)⟩
      rw [show o = a 0 by omega] at hm
      rw [nz_msk_e (nz_mk_z hm (fun q hq => by unfold nz_U at hq; simp at hq; exact hq.1))]; exact h
    | succ n ih =>
      intro o m ho hm
      have ms := nz_mk_s hm (by omega)
      refine s_Md_thoseUp_4 ?_
      simp (disch := omega) only [ny_lit, nI_add, ny_mul, nI_clamp, ny_le, ny_lt, ny_eq, ny_div, ny_rem, ny_rem2, ny_inN, ha _, true_and]
      refine ⟨fun q => absurd q (by omega), fun _ => q_Md_isUp ha hV (by omega) ?_⟩
      rw [show nI m ||| nI 1 <<< (nI o &&& nI 31) = nI (m ||| 2 ^ o) from nz_bon m hm.1 o (by omega), nz_or0 m hm.1]
      by_cases c : ny_upb a o = true
      · rw [if_pos c]
        exact ⟨fun q => absurd q (by decide), fun _ => ih (o + 1) _ (by omega) (ms.1 (by unfold nz_U; simp [c]; omega))⟩
      · rw [if_neg c]
        simp only [Bool.not_eq_true] at c
        exact ⟨fun _ => ih (o + 1) _ (by omega) (ms.2 (by unfold nz_U; simp [c])), fun q => absurd rfl q⟩
  exact s_Md_thoseUp_0 (key (a 0) 0 0 (by omega) ⟨by decide, fun q hq => by simp⟩)
theorem q_Md_state {x : Int32} (ha : ny_Md I a) (hV : ny_V a) (h : Q (o_state x a) I) : ny_C1 (d + 3) m_Md_state [.ref 102, .int x] Ln I Q := by
  have V1 := hV.1; have V2 := hV.2.1; have V3 := hV.2.2.1; have V4 := hV.2.2.2.1; have V5 := hV.2.2.2.2.1; obtain ⟨v0, v1, v2, v3, v5, v6, v7⟩ := V1
  have so : ∀ w, w ≤ 6 → x = nI w → o_state x a = if w = 0 then nI (a 1) else if w = 1 then nI (a 2) else if w = 2 then nI (a 3) else if w = 3 then (if a 2 ≤ a 1 then nI 1 else nI 0) else if w = 4 then nI (nz_msk (nz_L a)) else if w = 5 then nI (nz_W a (a 1)) else nI (nz_msk (nz_U a)) := by
    intro w hw e
    simp only [o_state, nz_in_s (l := 0) (n := 6) (by decide) (by decide) (by omega) hw e]
  refine s_Md_state_0 ⟨fun c => ?_, fun c => ?_, fun c => ?_, fun c => ?_, fun c => ?_, fun c => ?_, fun c => ?_, fun c0 c1 c2 c3 c4 c5 c6 => ?_⟩
  · rw [so 0 (by decide) c] at h
    subst c
    simp (disch := omega) only [ny_lit, nI_add, ny_mul, nI_clamp, ny_le, ny_lt, ny_eq, ny_div, ny_rem, ny_rem2, ny_inN, ha _, true_and]; exact h
  · rw [so 1 (by decide) c] at h
    subst c
    simp (disch := omega) only [ny_lit, nI_add, ny_mul, nI_clamp, ny_le, ny_lt, ny_eq, ny_div, ny_rem, ny_rem2, ny_inN, ha _, true_and]; exact h
  · rw [so 2 (by decide) c] at h
    subst c
    simp (disch := omega) only [ny_lit, nI_add, ny_mul, nI_clamp, ny_le, ny_lt, ny_eq, ny_div, ny_rem, ny_rem2, ny_inN, ha _, true_and]; exact h
  · rw [so 3 (by decide) c] at h
    refine q_Md_isOver ha hV ?_
    replace h : Q (if a 2 ≤ a 1 then nI 1 else nI 0) I := h
    by_cases q : a 2 ≤ a 1
    · rw [if_pos q] at h ⊢; exact ⟨fun q => absurd q (by decide), fun _ => h⟩
    · rw [if_neg q] at h ⊢; exact ⟨fun _ => h, fun q => absurd rfl q⟩
  · rw [so 4 (by decide) c] at h
    exact q_Md_relievedOnes (d := d + 1) ha hV h
  · rw [so 5 (by decide) c] at h
    simp (disch := omega) only [ny_lit, nI_add, ny_mul, nI_clamp, ny_le, ny_lt, ny_eq, ny_div, ny_rem, ny_rem2, ny_inN, ha _, true_and]
    exact q_Md_weatherOf ha (by omega) h
  · rw [so 6 (by decide) c] at h
    exact q_Md_thoseUp ha hV h
  · have : nz_in 0 6 x = none := by
      refine nz_in_n (by decide) (by decide) fun m _ hm e => ?_
      have hcs : m = 0 ∨ m = 1 ∨ m = 2 ∨ m = 3 ∨ m = 4 ∨ m = 5 ∨ m = 6 := by omega
      rcases hcs with rfl | rfl | rfl | rfl | rfl | rfl | rfl
      · exact c0 e
      · exact c1 e
      · exact c2 e
      · exact c3 e
      · exact c4 e
      · exact c5 e
      · exact c6 e
    simp only [o_state, this] at h
    rw [ny_m1]; exact h
theorem q_No_state {x : Int32} (hC : ny_Cl I a) (hV : ny_V a) (h : Q (o_state x a) I) : ny_C1 (d + 3) m_No_state [.ref 5, .int x] Ln I Q := by
  have V1 := hV.1; have V2 := hV.2.1; have V3 := hV.2.2.1; have V4 := hV.2.2.2.1; have V5 := hV.2.2.2.2.1; obtain ⟨v0, v1, v2, v3, v5, v6, v7⟩ := V1
  have so : ∀ w, w ≤ 6 → x = nI w → o_state x a = if w = 0 then nI (a 1) else if w = 1 then nI (a 2) else if w = 2 then nI (a 3) else if w = 3 then (if a 2 ≤ a 1 then nI 1 else nI 0) else if w = 4 then nI (nz_msk (nz_L a)) else if w = 5 then nI (nz_W a (a 1)) else nI (nz_msk (nz_U a)) := by
    intro w hw e
    simp only [o_state, nz_in_s (l := 0) (n := 6) (by decide) (by decide) (by omega) hw e]
  refine s_No_state_0 ⟨fun c => ?_, fun c => ?_, fun c => ?_, fun c => ?_, fun c => ?_, fun c => ?_, fun c => ?_, fun c0 c1 c2 c3 c4 c5 c6 => ?_⟩
  · rw [so 0 (by decide) c] at h
    rw [hC.2.1.1]; exact h
  · rw [so 1 (by decide) c] at h
    rw [hC.1.1.2]; exact h
  · rw [so 2 (by decide) c] at h
    rw [hC.2.2.1.1]; exact h
  · rw [so 3 (by decide) c] at h
    exact q_Ba_isOver nz_m7 hC.1 hC.2.1 hV (q_No_oneIf h)
  · rw [so 4 (by decide) c] at h
    obtain ⟨m1, m2, m, m3, m4, m5⟩ := hC.2.1
    rw [m4, nz_msk_e (s := nz_L a) ⟨m3, fun q hq => m5 q hq⟩]; exact h
  · rw [so 5 (by decide) c] at h
    rw [hC.2.1.1]
    exact q_Ba_weatherOf hC.1 (by omega) h
  · rw [so 6 (by decide) c] at h
    exact q_Ba_upSet hC.1 hC.2.1 hV fun m hm => by rw [nz_msk_e hm]; exact h
  · have : nz_in 0 6 x = none := by
      refine nz_in_n (by decide) (by decide) fun m _ hm e => ?_
      have hcs : m = 0 ∨ m = 1 ∨ m = 2 ∨ m = 3 ∨ m = 4 ∨ m = 5 ∨ m = 6 := by omega
      rcases hcs with rfl | rfl | rfl | rfl | rfl | rfl | rfl
      · exact c0 e
      · exact c1 e
      · exact c2 e
      · exact c3 e
      · exact c4 e
      · exact c5 e
      · exact c6 e
    simp only [o_state, this] at h
    rw [ny_m1]; exact h
end NZOR
