/-! both: rings -/
theorem nz_nr_sym : ∀ x, x < 6 → ∀ y, y < 6 → nz_nr x y = nz_nr y x := by decide +kernel
theorem nz_mlow : ∀ m, m < 64 → ∀ k, k < 6 → ((nI m &&& (((1 : Int32) <<< (nI k &&& 31)) - 1)) = 0 ↔ m % 2 ^ k = 0) := by decide +kernel
theorem nz_mlb : ∀ m, m < 64 → ∀ k, k < 6 → (m % 2 ^ k = 0 ↔ ∀ q, q < k → m.testBit q = false) := by decide +kernel
theorem nz_dif : ∀ m, m < 64 → ∀ r, r < 64 → (nI m &&& (nI r ^^^ (-1)) = nI (m &&& (63 - r)) ∧ m &&& (63 - r) < 64 ∧ ∀ q, q < 6 → (m &&& (63 - r)).testBit q = (m.testBit q && !(r.testBit q))) := by decide +kernel
theorem nz_R_lt {a : ny_a} {i q : Nat} (h : nz_R a i q = true) : q < a 0 := by
  unfold nz_R at h
  simp only [Bool.and_eq_true, decide_eq_true_eq] at h
  exact h.1
theorem nz_rg_cd {a : ny_a} {k : Nat} (hV : ny_V a) (hk : k < a 0) (hu : ny_upb a k = true) : nz_cd (nz_R a) (a 0) (nz_rg a k) ∧ nz_rg a k k = true ∧ ∀ c, nz_cd (nz_R a) (a 0) c → c k = true → nz_le (nz_rg a k) c := by
  have v0 := hV.1.1
  have hR : ∀ i q, nz_R a i q = true → q < a 0 := fun i q h => nz_R_lt h
  have e1 : (fun q => decide (q = k) && ny_upb a k) = (fun q => decide (q = k)) := by
    funext q; rw [hu, Bool.and_true]
  have er : nz_rg a k = nz_Tr (nz_R a) (a 0) (fun q => decide (q = k)) 6 := by unfold nz_rg; rw [e1]
  have := nz_ring_eq hR hk (r := a 0 - 1) (r' := 6) (by omega) (by omega)
  refine ⟨?_, ?_, fun c hc h => ?_⟩
  · rw [er, this.1]; exact this.2
  · rw [er]; exact nz_Tr_le 6 _ k (by simp)
  · rw [er]
    exact nz_Tr_cd hc 6 _ fun q h2 => by
      simp only [decide_eq_true_eq] at h2
      rw [h2]; exact h
theorem nz_R_sym {a : ny_a} (hV : ny_V a) {i q : Nat} (hi : i < a 0) (h : nz_R a i q = true) : nz_R a q i = true := by
  have v0 := hV.1.1
  have hq := nz_R_lt h
  unfold nz_R at h ⊢
  simp only [Bool.and_eq_true, decide_eq_true_eq] at h ⊢
  have U1 := hV.2.1 i (by omega)
  have U2 := hV.2.1 q (by omega)
  refine ⟨hi, h.2.2.1, h.2.1, ?_⟩
  rw [nz_nr_sym _ (by omega) _ (by omega)]; exact h.2.2.2
theorem nz_rg_U {a : ny_a} {k : Nat} (hV : ny_V a) (hk : k < a 0) (hu : ny_upb a k = true) : nz_le (nz_rg a k) (nz_U a) := by
  refine (nz_rg_cd hV hk hu).2.2 _ (fun i hi hs q hq => ?_) (by simp [nz_U, hk, hu])
  unfold nz_R at hq
  simp only [Bool.and_eq_true, decide_eq_true_eq] at hq
  simp [nz_U, hq.1, hq.2.2.1]
theorem nz_rg_sym {a : ny_a} {j k : Nat} (hV : ny_V a) (hj : j < a 0) (hk : k < a 0) (uj : ny_upb a j = true) (uk : ny_upb a k = true) (h : nz_rg a j k = true) : nz_rg a k j = true := by
  cases hn : nz_rg a k j with
  | true => rfl
  | false =>
    have cj := nz_rg_cd hV hj uj
    have ck := nz_rg_cd hV hk uk
    have hc : nz_cd (nz_R a) (a 0) (fun q => nz_rg a j q && !(nz_rg a k q)) := by
      intro i hi hs q hq
      simp only [Bool.and_eq_true, Bool.not_eq_true'] at hs ⊢
      refine ⟨cj.1 i hi hs.1 q hq, ?_⟩
      cases e : nz_rg a k q with
      | false => rfl
      | true =>
        have := ck.1 q (nz_R_lt hq) e i (nz_R_sym hV hi hq)
        rw [this] at hs
        exact absurd hs.2 (by decide)
    have := cj.2.2 _ hc (by simp [cj.2.1, hn]) k h
    simp [ck.2.1] at this
theorem nz_rg_tr {a : ny_a} {j k : Nat} (hV : ny_V a) (hj : j < a 0) (hk : k < a 0) (uj : ny_upb a j = true) (uk : ny_upb a k = true) (h : nz_rg a j k = true) : nz_le (nz_rg a k) (nz_rg a j) :=
  (nz_rg_cd hV hk uk).2.2 _ (nz_rg_cd hV hj uj).1 h
/-- the least of a ring -/
def nz_ldr (a : ny_a) (o : Nat) : Bool := ny_upb a o && decide (nz_msk (nz_rg a o) % 2 ^ o = 0)
def nz_rc (a : ny_a) : Nat → Nat → Nat
  | _, 0 => 0
  | o, n + 1 => (if nz_ldr a o then 1 else 0) + nz_rc a (o + 1) n
def nz_ex (a : ny_a) : Nat → nz_st
  | 0 => fun _ => false
  | o + 1 => fun q => nz_ex a o q || (nz_U a o && nz_rg a o q)
theorem nz_ex_i {a : ny_a} {q : Nat} : ∀ o, nz_ex a o q = true ↔ ∃ j, j < o ∧ nz_U a j = true ∧ nz_rg a j q = true := by
  intro o
  induction o with
  | zero =>
    constructor
    · intro h; cases h
    · rintro ⟨j, h, _⟩; omega
  | succ o ih =>
    show (nz_ex a o q || (nz_U a o && nz_rg a o q)) = true ↔ _
    rw [Bool.or_eq_true, Bool.and_eq_true, ih]
    constructor
    · rintro (⟨j, h1, h2⟩ | h)
      · exact ⟨j, by omega, h2⟩
      · exact ⟨o, by omega, h⟩
    · rintro ⟨j, h1, h2⟩
      by_cases e : j = o
      · subst e; exact Or.inr h2
      · exact Or.inl ⟨j, by omega, h2⟩
theorem nz_U_i {a : ny_a} {q : Nat} : nz_U a q = true ↔ q < a 0 ∧ ny_upb a q = true := by
  unfold nz_U; rw [Bool.and_eq_true, decide_eq_true_eq]
theorem nz_ldr_i {a : ny_a} {o : Nat} (hV : ny_V a) (ho : o < a 0) : (nz_U a o && !(nz_ex a o o)) = nz_ldr a o := by
  have v0 := hV.1.1
  have hm := nz_msk_k (nz_rg a o)
  unfold nz_ldr
  cases hu : ny_upb a o with
  | false => simp [nz_U, hu]
  | true =>
    have hU : nz_U a o = true := nz_U_i.mpr ⟨ho, hu⟩
    rw [hU, Bool.true_and, Bool.true_and]
    have key : nz_ex a o o = true ↔ ¬ (nz_msk (nz_rg a o) % 2 ^ o = 0) := by
      rw [nz_ex_i, nz_mlb _ hm.1 o (by omega)]
      constructor
      · rintro ⟨j, h1, h2, h3⟩ h
        obtain ⟨u1, u2⟩ := nz_U_i.mp h2
        have := h j h1
        rw [hm.2 j (by omega), nz_rg_sym hV u1 ho u2 hu h3] at this
        cases this
      · intro h
        apply Classical.byContradiction
        intro hn
        refine h fun q hq => ?_
        rw [hm.2 q (by omega)]
        cases e : nz_rg a o q with
        | false => rfl
        | true =>
          have hq2 := nz_rg_U hV ho hu q e
          obtain ⟨u1, u2⟩ := nz_U_i.mp hq2
          exact absurd ⟨q, hq, hq2, nz_rg_sym hV ho u1 hu u2 e⟩ hn
    cases e : nz_ex a o o with
    | true => rw [decide_eq_false (key.mp e)]; rfl
    | false =>
      rw [decide_eq_true]
      · rfl
      · apply Classical.byContradiction
        intro q
        rw [key.mpr q] at e; cases e
def o_rings (x : Int32) (a : ny_a) : Int32 := if x = nI 4294967295 then nI (nz_rc a 0 (a 0)) else
  match nz_fg a x with
  | some k => nI (nz_msk (nz_rg a k))
  | none => nI 4294967295
theorem nz_rc_le {a : ny_a} : ∀ n o, nz_rc a o n ≤ n := by
  intro n
  induction n with
  | zero => intro o; exact Nat.le_refl _
  | succ n ih => intro o; rw [nz_rc]; have := ih (o + 1); split <;> omega
theorem nz_neg {x : Int32} {k : Nat} (e : x = nI k) (h : k < 2 ^ 31) : ¬ x = nI 4294967295 := by
  rw [e]
  intro q
  have := congrArg Int32.toInt q
  rw [nI_toInt h, show (nI 4294967295).toInt = -1 by decide +kernel] at this
  omega
section NZRN
variable {d Ln : Nat} {I : ny_I} {Q : Int32 → ny_I → Prop} {Q0 : ny_I → Prop} {a : ny_a}
theorem q_Md_rings {x : Int32} (ha : ny_Md I a) (hV : ny_V a) (h : Q (o_rings x a) I) : ny_C1 (d + 4) m_Md_rings [.ref 102, .int x] Ln I Q := by
  have V1 := hV.1; have V2 := hV.2.1; have V3 := hV.2.2.1; have V4 := hV.2.2.2.1; have V5 := hV.2.2.2.2.1; obtain ⟨v0, v1, v2, v3, v5, v6, v7⟩ := V1
  unfold o_rings at h
  refine s_Md_rings_0 ⟨fun c => ?_, fun c => q_Md_O ha hV (fun k ek hk ex => ⟨fun _ => ?_, fun q => absurd q (by decide)⟩) (fun ek => ⟨fun q => absurd rfl q, fun _ => ?_⟩)⟩
  · rw [ny_m1] at c
    rw [if_pos c] at h
    refine s_Md_rings_15 ⟨fun _ => ?_, fun q => absurd (by rw [c]; decide +kernel) q⟩
    have key : ∀ n o c, o + n = a 0 → c + nz_rc a o n = nz_rc a 0 (a 0) → ny_g (d + 4) m_Md_rings 29 [(0, .ref 102), (2, .int (nI c)), (3, .int (nI o))] [] Ln I (ny_r1 Ln Q) := by
      intro n
      induction n with
      | zero =>
        intro o c ho e
        rw [nz_rc, Nat.add_zero] at e
        subst e
        refine s_Md_rings_29 ?_
        simp (disch := omega) only [ny_lit, nI_add, ny_mul, nI_clamp, ny_le, ny_lt, ny_eq, ny_div, ny_rem, ny_rem2, ny_inN, ha _, true_and]
        exact ⟨fun _ => h, fun q => absurd q (by omega)⟩
      | succ n ih =>
        intro o c ho e
        have ho6 : o < 6 := by omega
        rw [nz_rc] at e
        refine s_Md_rings_29 ?_
        simp (disch := omega) only [ny_lit, nI_add, ny_mul, nI_clamp, ny_le, ny_lt, ny_eq, ny_div, ny_rem, ny_rem2, ny_inN, ha _, true_and]
        refine ⟨fun q => absurd q (by omega), fun _ => q_Md_isUp (d := d + 2) ha hV ho6 ?_⟩
        by_cases u : ny_upb a o = true
        · rw [if_pos u]
          refine ⟨fun q => absurd q (by decide), fun _ => q_Md_ringOf ha hV ho6 fun m hm => ?_⟩
          rw [show nI m &&& nI 1 <<< (nI o &&& nI 31) - nI 1 = nI 0 ↔ m % 2 ^ o = 0 from nz_mlow m hm.1 o ho6]
          rw [nz_msk_e hm]
          refine ⟨fun q => ?_, fun q => ?_⟩
          · rw [if_neg (by simp [nz_ldr, q])] at e
            exact ih (o + 1) _ (by omega) (by omega)
          · rw [if_pos (by simp [nz_ldr, q, u])] at e
            exact ih (o + 1) _ (by omega) (by omega)
        · rw [if_neg u]
          rw [if_neg (by simp [nz_ldr, u])] at e
          exact ⟨fun _ => ih (o + 1) _ (by omega) (by omega), fun q => absurd rfl q⟩
    exact key (a 0) 0 0 (by omega) (by omega)
  · rw [if_neg (nz_neg ex (by omega))] at h
    subst ex
    simp only [ek] at h
    exact s_Md_rings_15 ⟨fun q => absurd q (nI_pos (by omega)), fun _ => q_Md_ringOf ha hV (by omega) fun m hm => by rw [nz_msk_e hm]; exact h⟩
  · rw [if_neg (by rw [← ny_m1]; exact c)] at h
    simp only [ek] at h
    rw [ny_m1]; exact h
theorem q_Ba_ringCount (hB : ny_Ba I a) (hM : ny_Mo I 7 a) (hV : ny_V a) (h : Q (nI (nz_rc a 0 (a 0))) I) : ny_C1 (d + 4) m_Ba_ringCount [.ref 6] Ln I Q := by
  have V1 := hV.1; have V2 := hV.2.1; have V3 := hV.2.2.1; have V4 := hV.2.2.2.1; have V5 := hV.2.2.2.2.1; obtain ⟨v0, v1, v2, v3, v5, v6, v7⟩ := V1
  have key : ∀ n o c m, o + n = a 0 → nz_mk m (fun q => nz_U a q && !(nz_ex a o q)) → c + nz_rc a o n = nz_rc a 0 (a 0) → ny_g (d + 4) m_Ba_ringCount 13 [(0, .ref 6), (1, .int (nI c)), (2, .int (nI m)), (3, .int (nI o))] [] Ln I (ny_r1 Ln Q) := by
    intro n
    induction n with
    | zero =>
      intro o c m ho hm e
      rw [nz_rc, Nat.add_zero] at e
      subst e
      refine s_Ba_ringCount_13 ?_
      rw [hB.1.1]
      simp (disch := omega) only [ny_lit, nI_add, ny_mul, nI_clamp, ny_le, ny_lt, ny_eq, ny_div, ny_rem, ny_rem2, ny_inN]
      exact ⟨fun _ => h, fun q => absurd q (by omega)⟩
    | succ n ih =>
      intro o c m ho hm e
      have ho6 : o < 6 := by omega
      have hoa : o < a 0 := by omega
      rw [nz_rc] at e
      have b1 : (nI m &&& nI 1 <<< (nI o &&& nI 31) = nI 0 ↔ m.testBit o = false) := nz_bit m hm.1 o ho6
      have hl : m.testBit o = nz_ldr a o := (hm.2 o ho6).trans (nz_ldr_i hV hoa)
      refine s_Ba_ringCount_13 ?_
      rw [hB.1.1]
      simp (disch := omega) only [ny_lit, nI_add, ny_mul, nI_clamp, ny_le, ny_lt, ny_eq, ny_div, ny_rem, ny_rem2, ny_inN, b1, hl]
      refine ⟨fun q => absurd q (by omega), fun _ => ⟨fun c1 => ?_, fun c1 => q_Ba_ringOf hB hM hV hoa fun r hr => ?_⟩⟩
      · rw [if_neg (by simp [c1])] at e
        refine ih (o + 1) c m (by omega) ⟨hm.1, fun q hq => ?_⟩ (by omega)
        rw [hm.2 q hq]
        show (nz_U a q && !(nz_ex a o q)) = (nz_U a q && !(nz_ex a o q || (nz_U a o && nz_rg a o q)))
        cases hU : nz_U a o with
        | false => simp
        | true =>
          obtain ⟨u1, u2⟩ := nz_U_i.mp hU
          have : nz_ex a o o = true := by
            have := nz_ldr_i hV hoa
            rw [c1, hU] at this
            simpa using this
          obtain ⟨j, j1, j2, j3⟩ := (nz_ex_i o).mp this
          obtain ⟨w1, w2⟩ := nz_U_i.mp j2
          cases hq2 : nz_rg a o q with
          | false => simp
          | true =>
            have : nz_ex a o q = true := (nz_ex_i o).mpr ⟨j, j1, j2, nz_rg_tr hV w1 u1 w2 u2 j3 q hq2⟩
            simp [this]
      · simp only [Bool.not_eq_false] at c1
        rw [if_pos c1] at e
        have hU : nz_U a o = true := by
          have := nz_ldr_i hV hoa
          rw [c1] at this
          simp only [Bool.and_eq_true] at this
          exact this.1
        obtain ⟨d1, d2, d3⟩ := nz_dif m hm.1 r hr.1
        rw [show nI m &&& (nI r ^^^ -nI 1) = nI (m &&& (63 - r)) from d1]
        refine ih (o + 1) (c + 1) _ (by omega) ⟨d2, fun q hq => ?_⟩ (by omega)
        rw [d3 q hq, hm.2 q hq, hr.2 q hq]
        show ((nz_U a q && !(nz_ex a o q)) && !(nz_rg a o q)) = (nz_U a q && !(nz_ex a o q || (nz_U a o && nz_rg a o q)))
        rw [hU]
        cases nz_U a q <;> cases nz_ex a o q <;> cases nz_rg a o q <;> rfl
  refine s_Ba_ringCount_0 (q_Ba_upSet (d := d + 1) hB hM hV fun m hm => key (a 0) 0 0 m (by omega) ⟨hm.1, fun q hq => ?_⟩ (by omega))
  rw [hm.2 q hq]
  show nz_U a q = (nz_U a q && !false)
  simp
theorem q_No_rings {x : Int32} (hC : ny_Cl I a) (hV : ny_V a) (h : Q (o_rings x a) I) : ny_C1 (d + 5) m_No_rings [.ref 5, .int x] Ln I Q := by
  have V1 := hV.1; have V2 := hV.2.1; have V3 := hV.2.2.1; have V4 := hV.2.2.2.1; have V5 := hV.2.2.2.2.1; obtain ⟨v0, v1, v2, v3, v5, v6, v7⟩ := V1
  unfold o_rings at h
  refine s_No_rings_0 ⟨fun c => q_No_O hC.1 hV (fun k ek hk ex => ⟨fun q => absurd q (by decide), fun _ => ?_⟩) (fun ek => ⟨fun _ => ?_, fun q => absurd rfl q⟩), fun c => ?_⟩
  · rw [if_neg (nz_neg ex (by omega))] at h
    subst ex
    simp only [ek] at h
    exact q_Ba_ringOf (d := d + 1) hC.1 hC.2.1 hV hk fun m hm => by rw [nz_msk_e hm]; exact h
  · rw [if_neg (by rw [← ny_m1]; exact c)] at h
    simp only [ek] at h
    rw [ny_m1]; exact h
  · rw [ny_m1] at c
    rw [if_pos c] at h
    exact q_Ba_ringCount hC.1 hC.2.1 hV h
end NZRN
