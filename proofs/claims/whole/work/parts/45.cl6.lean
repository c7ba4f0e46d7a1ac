/-! the class: the moments copied, on, when, faints, the best grace, rank -/
section NZBC
theorem nz_become {I : ny_I} {a : ny_a} {c s : Nat} (hc : ny_mc c) (hs : ny_mc s) (hM : ny_Mo I s a) {X : ny_I} (e : X = ny_up (ny_up (ny_cp I (c + 1) (s + 1) 0 0 6) c 1 ((ny_cp I (c + 1) (s + 1) 0 0 6) s 1)) c 2 ((ny_up (ny_cp I (c + 1) (s + 1) 0 0 6) c 1 ((ny_cp I (c + 1) (s + 1) 0 0 6) s 1)) s 2)) (hn : c ≠ s) (h0 : a 0 ≤ 6) : nz_fr c X I ∧ ny_Mo X c a := by
  have n1 : c ≠ s + 1 ∧ c ≠ c + 1 ∧ s ≠ c + 1 := by unfold ny_mc at hc hs; omega
  have n22 : c ≠ 22 ∧ c + 1 ≠ 22 := by unfold ny_mc at hc; omega
  subst e
  obtain ⟨h1, h2, m, h3, h4, h5⟩ := hM
  refine ⟨⟨fun q q1 q2 q3 => ?_, fun j hj => ?_⟩, ?_, fun k hk => ?_, m, h3, ?_, h5⟩
  · rw [ny_upne _ q2, ny_upne _ q2]; exact if_neg q3
  · rw [ny_upne _ (Ne.symm n22.1), ny_upne _ (Ne.symm n22.1)]
    have : (22 : Nat) ≠ c + 1 := fun e => n22.2 e.symm
    show (if (22 : Nat) = c + 1 then _ else I 22) j = _
    rw [if_neg this]
  · rw [ny_upeq]
    unfold upd
    rw [if_pos rfl, ny_upne _ (Ne.symm hn)]
    show (if s = c + 1 then _ else I s) 2 = _
    rw [if_neg n1.2.2]; exact h1
  · rw [ny_upne _ (by omega), ny_upne _ (by omega)]
    show (if c + 1 = c + 1 then va_cpy (I (s + 1)) (I (c + 1)) 0 0 6 else I (c + 1)) k = _
    rw [if_pos rfl]
    unfold va_cpy
    rw [if_pos (by omega)]
    rw [show 0 + (k - 0) = k by omega]
    exact h2 k hk
  · rw [ny_upeq]
    unfold upd
    rw [if_neg (by decide), ny_upeq]
    unfold upd
    rw [if_pos rfl]
    show (if s = c + 1 then _ else I s) 1 = _
    rw [if_neg n1.2.2]; exact h4
variable {d Ln : Nat} {I : ny_I} {Q : Int32 → ny_I → Prop} {Qn : Nat → ny_I → Prop} {Q0 : ny_I → Prop} {a : ny_a} {c : Nat}
theorem q_Ba_copyOfNow (hM : ny_Mo I 7 a) (hV : ny_V a) (h : ∀ I', nz_fr 28 I' I → ny_Mo I' 28 a → Qn 28 I') : ny_Cr (d + 1) m_Ba_copyOfNow [.ref 6] Ln I Qn := by
  refine s_Ba_copyOfNow_0 (s_Mo_become_28_7_0 ?_)
  have := nz_become (c := 28) (s := 7) (Or.inr (Or.inl rfl)) (Or.inl rfl) hM rfl (by decide) hV.1.1
  exact h _ this.1 this.2
theorem nz_Mo_fr {I' : ny_I} {c s : Nat} (hF : nz_fr c I' I) (hs : ny_mc s) (hn : s ≠ c) (hc : ny_mc c) (h : ny_Mo I s a) : ny_Mo I' s a := by
  unfold ny_mc at hc hs
  unfold ny_Mo
  rw [hF.1 s (by omega) hn (by omega), hF.1 (s + 1) (by omega) (by omega) (by omega)]
  exact h
theorem nz_m28 : ny_mc 28 := Or.inr (Or.inl rfl)
theorem nz_m7 : ny_mc 7 := Or.inl rfl
theorem q_Ba_restWorth {n : Nat} (hB : ny_Ba I a) (hM : ny_Mo I 7 a) (hV : ny_V a) (hn : n ≤ 16) (h : ∀ I', nz_fr 28 I' I → Q (nI (nz_onw a n)) I') : ny_C1 (d + 5) m_Ba_restWorth [.ref 6, .int (nI n)] Ln I Q := by
  refine s_Ba_restWorth_0 (q_Ba_copyOfNow (d := d + 3) hM hV fun I1 hF1 hM1 => ⟨rfl, ?_⟩)
  have key : ∀ m i w (a' : ny_a) (I2 : ny_I), i + m = n → ny_V a' → ny_Ba I2 a' → ny_Mo I2 28 a' → nz_fr 28 I2 I → w + nz_onw a' m = nz_onw a n → ny_g (d + 5) m_Ba_restWorth 10 [(0, .ref 6), (1, .int (nI n)), (2, .ref 28), (3, .int (nI w)), (4, .int (nI i))] [] Ln I2 (ny_r1 Ln Q) := by
    intro m
    induction m with
    | zero =>
      intro i w a' I2 hi hV' hB2 hM2 hF2 e
      refine s_Ba_restWorth_10 ⟨fun _ => ?_, fun c => ?_⟩
      · rw [nz_onw, Nat.add_zero] at e
        rw [e]; exact h I2 hF2
      · rw [ny_le (by omega) (by omega)] at c; omega
    | succ m ih =>
      intro i w a' I2 hi hV' hB2 hM2 hF2 e
      have hr := nz_rst_le a'
      have hv := hV'.1
      refine s_Ba_restWorth_10 ⟨fun c => ?_, fun _ => q_Ba_isOver nz_m28 hB2 hM2 hV' ?_⟩
      · rw [ny_le (by omega) (by omega)] at c; omega
      · rw [nz_onw] at e
        by_cases c : a' 2 ≤ a' 1
        · rw [if_pos c] at e ⊢
          rw [Nat.add_zero] at e
          rw [e]
          exact ⟨fun _ => h I2 hF2, fun q => absurd q (by decide)⟩
        · rw [if_neg c] at e ⊢
          refine ⟨fun q => absurd rfl q, fun _ => q_Ba_restAct nz_m28 hB2 hM2 hV' fun I3 hF3 => ?_⟩
          have hB3 := nz_Ba_Fs hF3 hV' hB2
          have hM3 := nz_Mo_Fs nz_m28 hF3 hM2
          refine q_Ba_goBy (d := d + 1) nz_m28 hB3 hM3 hV' hr fun I4 hF4 hM4 => ?_
          have g := nz_nbV hV' (by omega)
          rw [nI_add, ny_lit, nI_add]
          exact ih (i + 1) _ (nz_nb a') I4 (by omega) g.1 (nz_Ba_mv nz_m28 hF4 g.2.1 hV' hB3) hM4 (nz_Fr_t hF4 (nz_Fr_t (nz_Fs_Fr hF3) hF2)) (by omega)
  exact key n 0 0 a I1 (by omega) hV (nz_Ba_mv nz_m28 hF1 (fun _ _ _ _ => rfl) hV hB) hM1 hF1 (by omega)
theorem nz_til_t {P : ny_a → Bool} {a : ny_a} (h : P a = true) : ∀ n, nz_til P a n = a := by
  intro n
  cases n with
  | zero => rfl
  | succ n => rw [nz_til, if_pos h]
theorem q_Ba_restRelieves {k : Nat} (hB : ny_Ba I a) (hM : ny_Mo I 7 a) (hV : ny_V a) (hk : k < a 0) (h : ∀ I', nz_fr 28 I' I → Q (nz_whn a k) I') : ny_C1 (d + 5) m_Ba_restRelieves [.ref 6, .int (nI k)] Ln I Q := by
  have V1 := hV.1; have V2 := hV.2.1; have V3 := hV.2.2.1; have V4 := hV.2.2.2.1; have V5 := hV.2.2.2.2.1; obtain ⟨v0, v1, v2, v3, v5, v6, v7⟩ := V1
  have U := V2 k (by omega)
  refine s_Ba_restRelieves_0 (q_Mo_isRelieved nz_m7 hM (by omega) ?_)
  unfold nz_whn at h
  by_cases c0 : a (12 + 5 * k) = 1
  · rw [if_pos ⟨hk, c0⟩]
    rw [if_pos c0] at h
    exact ⟨fun q => absurd q (by decide), fun _ => h I ⟨fun _ _ _ _ => rfl, fun _ _ => rfl⟩⟩
  · rw [if_neg (fun q => c0 q.2)]
    rw [if_neg c0] at h
    refine ⟨fun _ => q_Ba_copyOfNow (d := d + 3) hM hV fun I1 hF1 hM1 => ⟨rfl, ?_⟩, fun q => absurd rfl q⟩
    have e7 : I1 7 2 = nI (a 1) := by rw [hF1.1 7 (by decide) (by decide) (by decide)]; exact hM.1
    rw [e7]
    have key : ∀ m (a' : ny_a) (I2 : ny_I), a' 1 + m = a' 2 → a' 0 = a 0 → a' (12 + 5 * k) = 0 → ny_V a' → ny_Ba I2 a' → ny_Mo I2 28 a' → nz_fr 28 I2 I → nz_til (fun b => decide (b (12 + 5 * k) ≠ 0)) a (a 2 - a 1) = nz_til (fun b => decide (b (12 + 5 * k) ≠ 0)) a' m → ny_g (d + 5) m_Ba_restRelieves 27 [(0, .ref 6), (1, .int (nI k)), (2, .ref 28), (3, .int (nI (a' 1)))] [] Ln I2 (ny_r1 Ln Q) := by
      intro m
      induction m with
      | zero =>
        intro a' I2 hm h0 hp hV' hB2 hM2 hF2 e
        have v' := hV'.1
        refine s_Ba_restRelieves_27 ?_
        rw [hB2.1.2]
        simp (disch := omega) only [ny_lit, nI_add, ny_mul, nI_clamp, ny_le, ny_lt, ny_eq, ny_div, ny_rem, ny_rem2, ny_inN]
        refine ⟨fun _ => ?_, fun q => absurd q (by omega)⟩
        have := h I2 hF2
        rw [e, nz_til, if_pos hp] at this
        exact this
      | succ m ih =>
        intro a' I2 hm h0 hp hV' hB2 hM2 hF2 e
        have v' := hV'.1
        refine s_Ba_restRelieves_27 ?_
        rw [hB2.1.2]
        simp (disch := omega) only [ny_lit, nI_add, ny_mul, nI_clamp, ny_le, ny_lt, ny_eq, ny_div, ny_rem, ny_rem2, ny_inN]
        refine ⟨fun q => absurd q (by omega), fun _ => q_Ba_restAct nz_m28 hB2 hM2 hV' fun I3 hF3 => ?_⟩
        have hB3 := nz_Ba_Fs hF3 hV' hB2
        have hM3 := nz_Mo_Fs nz_m28 hF3 hM2
        refine q_Ba_goBy (d := d + 1) nz_m28 hB3 hM3 hV' (nz_rst_le a') fun I4 hF4 hM4 => ?_
        have g := nz_nbV hV' (by omega)
        have g0 := nz_Sm0 g.2.1
        have U4 := g.1.2.1 k (by omega)
        have hF : nz_fr 28 I4 I := nz_Fr_t hF4 (nz_Fr_t (nz_Fs_Fr hF3) hF2)
        refine q_Mo_isRelieved nz_m28 hM4 (by omega) ?_
        rw [nz_til, if_neg (by simp [hp])] at e
        by_cases cp : nz_nb a' (12 + 5 * k) = 1
        · rw [if_pos ⟨by show k < nz_nb a' 0; omega, cp⟩]
          refine ⟨fun q => absurd q (by decide), fun _ => ?_⟩
          rw [nz_til_t (a := nz_nb a') (by simp [cp])] at e
          have := h I4 hF
          rw [e, if_neg (by omega), g.2.2, pk_sub (by omega)] at this
          exact this
        · rw [if_neg (fun q => cp q.2)]
          refine ⟨fun _ => ?_, fun q => absurd rfl q⟩
          rw [← g.2.2]
          exact ih (nz_nb a') I4 (by omega) (by omega) (by omega) g.1 (nz_Ba_mv nz_m28 hF4 g.2.1 hV' hB3) hM4 hF e
    exact key (a 2 - a 1) a I1 (by omega) rfl (by omega) hV (nz_Ba_mv nz_m28 hF1 (fun _ _ _ _ => rfl) hV hB) hM1 hF1 rfl
theorem q_Ba_restFaints {k : Nat} (hB : ny_Ba I a) (hM : ny_Mo I 7 a) (hV : ny_V a) (hk : k < a 0) (h : ∀ I', nz_fr 28 I' I → Q (nz_fnt a k) I') : ny_C1 (d + 5) m_Ba_restFaints [.ref 6, .int (nI k)] Ln I Q := by
  have V1 := hV.1; have V2 := hV.2.1; have V3 := hV.2.2.1; have V4 := hV.2.2.2.1; have V5 := hV.2.2.2.2.1; obtain ⟨v0, v1, v2, v3, v5, v6, v7⟩ := V1
  unfold nz_fnt at h
  refine s_Ba_restFaints_0 (q_Ba_copyOfNow (d := d + 3) hM hV fun I1 hF1 hM1 => ⟨rfl, ?_⟩)
  have e7 : I1 7 2 = nI (a 1) := by rw [hF1.1 7 (by decide) (by decide) (by decide)]; exact hM.1
  rw [e7]
  have key : ∀ m (a' : ny_a) (I2 : ny_I), a' 1 + m = a' 2 → a' 0 = a 0 → ny_V a' → ny_Ba I2 a' → ny_Mo I2 28 a' → nz_fr 28 I2 I → nz_til (fun b => decide (60 ≤ b (9 + 5 * k))) a (a 2 - a 1) = nz_til (fun b => decide (60 ≤ b (9 + 5 * k))) a' m → ny_g (d + 5) m_Ba_restFaints 13 [(0, .ref 6), (1, .int (nI k)), (2, .ref 28), (3, .int (nI (a' 1)))] [] Ln I2 (ny_r1 Ln Q) := by
    intro m
    induction m with
    | zero =>
      intro a' I2 hm h0 hV' hB2 hM2 hF2 e
      have v' := hV'.1
      have U := hV'.2.1 k (by omega)
      have eT : I2 29 k = nI (a' (9 + 5 * k)) := hM2.2.1 k (by omega)
      refine s_Ba_restFaints_13 ?_
      rw [hB2.1.2]
      simp (disch := omega) only [ny_lit, nI_add, ny_mul, nI_clamp, ny_le, ny_lt, ny_eq, ny_div, ny_rem, ny_rem2, ny_inN, true_and, eT]
      refine ⟨fun q => absurd q (by omega), fun _ => ⟨fun c => ⟨fun _ => ?_, fun q => absurd q (by omega)⟩, fun c => ?_⟩⟩
      · refine s_Ba_restFaints_13 ?_
        rw [hB2.1.2]
        simp (disch := omega) only [ny_lit, nI_add, ny_mul, nI_clamp, ny_le, ny_lt, ny_eq, ny_div, ny_rem, ny_rem2, ny_inN, true_and]
        refine ⟨fun _ => ?_, fun q => absurd q (by omega)⟩
        have := h I2 hF2
        rw [e, nz_til, if_neg (by omega)] at this
        exact this
      · have := h I2 hF2
        rw [e, nz_til, if_pos (by omega)] at this
        exact this
    | succ m ih =>
      intro a' I2 hm h0 hV' hB2 hM2 hF2 e
      have v' := hV'.1
      have U := hV'.2.1 k (by omega)
      have eT : I2 29 k = nI (a' (9 + 5 * k)) := hM2.2.1 k (by omega)
      refine s_Ba_restFaints_13 ?_
      rw [hB2.1.2]
      simp (disch := omega) only [ny_lit, nI_add, ny_mul, nI_clamp, ny_le, ny_lt, ny_eq, ny_div, ny_rem, ny_rem2, ny_inN, true_and, eT]
      refine ⟨fun q => absurd q (by omega), fun _ => ⟨fun c => ⟨fun q => absurd q (by omega), fun _ => q_Ba_restAct nz_m28 hB2 hM2 hV' fun I3 hF3 => ?_⟩, fun c => ?_⟩⟩
      · have hB3 := nz_Ba_Fs hF3 hV' hB2
        have hM3 := nz_Mo_Fs nz_m28 hF3 hM2
        refine q_Ba_goBy (d := d + 1) nz_m28 hB3 hM3 hV' (nz_rst_le a') fun I4 hF4 hM4 => ?_
        have g := nz_nbV hV' (by omega)
        have g0 := nz_Sm0 g.2.1
        rw [nz_til, if_neg (by simp; omega)] at e
        rw [← g.2.2]
        exact ih (nz_nb a') I4 (by omega) (by omega) g.1 (nz_Ba_mv nz_m28 hF4 g.2.1 hV' hB3) hM4 (nz_Fr_t hF4 (nz_Fr_t (nz_Fs_Fr hF3) hF2)) e
      · have := h I2 hF2
        rw [e, nz_til_t (a := a') (by simp; omega), if_pos (by omega)] at this
        exact this
  exact key (a 2 - a 1) a I1 (by omega) rfl hV (nz_Ba_mv nz_m28 hF1 (fun _ _ _ _ => rfl) hV hB) hM1 hF1 rfl
theorem q_Ba_aheadOf {k : Nat} (hB : ny_Ba I a) (hM : ny_Mo I 7 a) (hV : ny_V a) (hk : k < a 0) (h : Q (nI (nz_rnk a k 0 (a 0))) I) : ny_C1 (d + 2) m_Ba_aheadOf [.ref 6, .int (nI k)] Ln I Q := by
  have V1 := hV.1; have V2 := hV.2.1; have V3 := hV.2.2.1; have V4 := hV.2.2.2.1; have V5 := hV.2.2.2.2.1; obtain ⟨v0, v1, v2, v3, v5, v6, v7⟩ := V1
  have U := V2 k (by omega)
  have eK : I 8 k = nI (a (9 + 5 * k)) := hM.2.1 k hk
  have hr := nz_rnk_le (a := a) (x := k) (a 0) 0
  refine s_Ba_aheadOf_0 ?_
  have key : ∀ n o c, o + n = a 0 → c + nz_rnk a k o n = nz_rnk a k 0 (a 0) → ny_g (d + 2) m_Ba_aheadOf 4 [(0, .ref 6), (1, .int (nI k)), (2, .int (nI c)), (3, .int (nI o))] [] Ln I (ny_r1 Ln Q) := by
    intro n
    induction n with
    | zero =>
      intro o c ho e
      rw [nz_rnk, Nat.add_zero] at e
      subst e
      refine s_Ba_aheadOf_4 ?_
      rw [hB.1.1]
      simp (disch := omega) only [ny_lit, nI_add, ny_mul, nI_clamp, ny_le, ny_lt, ny_eq, ny_div, ny_rem, ny_rem2, ny_inN]
      exact ⟨fun _ => h, fun q => absurd q (by omega)⟩
    | succ n ih =>
      intro o c ho e
      have U2 := V2 o (by omega)
      have eO : I 8 o = nI (a (9 + 5 * o)) := hM.2.1 o (by omega)
      rw [nz_rnk] at e
      have h64 : ∀ b : Bool, b = (decide (a (9 + 5 * k) < a (9 + 5 * o)) || (decide (a (9 + 5 * o) = a (9 + 5 * k)) && decide (o < k))) → ny_g (d + 2) m_Ba_aheadOf 64 [(0, .ref 6), (1, .int (nI k)), (2, .int (nI c)), (3, .int (nI o))] [.int (if b then nI 1 else nI 0)] Ln I (ny_r1 Ln Q) := by
        intro b hb
        unfold nz_ahd at e
        rw [← hb] at e
        refine s_Ba_aheadOf_64 ?_
        simp only [ny_lit, nI_add]
        cases b with
        | false => exact ⟨fun _ => ih (o + 1) _ (by omega) (by simpa using e), fun q => absurd rfl q⟩
        | true =>
          refine ⟨fun q => absurd q (by decide), fun _ => q_Ba_isUp nz_m7 hB hM hV (by omega) ?_⟩
          by_cases c1 : ny_upb a o = true
          · rw [if_pos c1]
            rw [c1] at e
            simp only [Bool.and_self, if_pos] at e
            exact ⟨fun q => absurd q (by decide), fun _ => ih (o + 1) _ (by omega) (by omega)⟩
          · rw [if_neg c1]
            rw [if_neg (by simp [c1])] at e
            exact ⟨fun _ => ih (o + 1) _ (by omega) (by omega), fun q => absurd rfl q⟩
      refine s_Ba_aheadOf_4 ?_
      rw [hB.1.1]
      simp (disch := omega) only [ny_lit, nI_add, ny_mul, nI_clamp, ny_le, ny_lt, ny_eq, ny_div, ny_rem, ny_rem2, ny_inN, true_and, eK, eO]
      refine ⟨fun q => absurd q (by omega), fun _ => ⟨fun c1 => ?_, fun c1 => ⟨fun c2 => ?_, fun c2 => ⟨fun c3 => ?_, fun c3 => ?_⟩⟩⟩⟩
      · exact h64 true (by simp [c1])
      · exact h64 false (by simp [c1, c2])
      · exact h64 false (by simp [c1]; omega)
      · exact h64 true (by simp [c2]; omega)
  exact key (a 0) 0 0 (by omega) (by omega)
/-- but for what the looking ahead changes, only place k of o has changed -/
def nz_gb (o k : Nat) (I1 I : ny_I) : Prop := (∀ q, q ≠ 22 → q ≠ 28 → q ≠ 29 → q ≠ o → I1 q = I q) ∧ (∀ j, j ≠ k → I1 o j = I o j) ∧ ∀ j, 5 ≤ j → I1 22 j = I 22 j
theorem nz_Ba_o {I1 : ny_I} {o i k u : Nat} (ho : o = 10 ∧ i = 10 + 5 * k ∨ o = 11 ∧ i = 11 + 5 * k) (hk : k < 6) (hV : ny_V a) (hB : ny_Ba I a) (hG : nz_gb o k I1 I) (hu : I1 o k = nI u) : ny_Ba I1 (ny_au a i u) := by
  have e : ∀ q, q = 1 ∨ q = 6 ∨ (9 ≤ q ∧ q ≤ 21) → q ≠ o → I1 q = I q := fun q hq h2 => hG.1 q (by omega) (by omega) (by omega) h2
  have ea : ∀ j, j ≠ i → ny_au a i u j = a j := fun j hj => nz_au_ne hj
  have v := hV.1
  obtain ⟨⟨h1, h2⟩, h3, h4, h5, ⟨h6, h7⟩, h8, h9, h10⟩ := hB
  unfold ny_Ba
  rw [e 6 (by omega) (by omega), e 9 (by omega) (by omega), e 12 (by omega) (by omega), e 13 (by omega) (by omega), e 14 (by omega) (by omega), e 15 (by omega) (by omega), e 16 (by omega) (by omega), e 17 (by omega) (by omega), e 18 (by omega) (by omega), e 19 (by omega) (by omega), e 20 (by omega) (by omega), e 21 (by omega) (by omega), e 1 (by omega) (by omega),
    ea 0 (by omega), ea 2 (by omega), ea 5 (by omega), ea 7 (by omega)]
  refine ⟨⟨h1, h2⟩, fun q hq => ?_, fun f hf => ?_, fun b hb => ?_, ⟨h6, h7⟩, fun r hr => ?_, fun i hi => ?_, h10⟩
  · rw [ea (8 + 5 * q) (by omega)]
    obtain ⟨g1, g2, g3⟩ := h3 q hq
    rcases ho with ⟨rfl, rfl⟩ | ⟨rfl, rfl⟩
    · rw [e 11 (by omega) (by omega), ea (11 + 5 * q) (by omega)]
      refine ⟨g1, ?_, g3⟩
      by_cases c : q = k
      · subst c; rw [nz_au_eq]; exact hu
      · rw [hG.2.1 q c, ea _ (by omega)]; exact g2
    · rw [e 10 (by omega) (by omega), ea (10 + 5 * q) (by omega)]
      refine ⟨g1, g2, ?_⟩
      by_cases c : q = k
      · subst c; rw [nz_au_eq]; exact hu
      · rw [hG.2.1 q c, ea _ (by omega)]; exact g3
  · rw [ea _ (by omega), ea _ (by omega)]; exact h4 f hf
  · rw [ea _ (by omega)]; exact h5 b hb
  · rw [ea _ (by omega), ea _ (by omega), ea _ (by omega)]; exact h8 r hr
  · rw [ea _ (by omega), ea _ (by omega), ea _ (by omega)]
    obtain ⟨g1, g2⟩ := h9 i hi
    exact ⟨g1, fun q => ⟨nz_vr_mv hG.2.2 (g2 q).1, nz_vr_mv hG.2.2 (g2 q).2⟩⟩
theorem nz_Mo_o {I1 : ny_I} {o i k u : Nat} (ho : o = 10 ∧ i = 10 + 5 * k ∨ o = 11 ∧ i = 11 + 5 * k) (hM : ny_Mo I 7 a) (hG : nz_gb o k I1 I) : ny_Mo I1 7 (ny_au a i u) := by
  have ea : ∀ j, j ≠ i → ny_au a i u j = a j := fun j hj => nz_au_ne hj
  obtain ⟨h1, h2, m, h3, h4, h5⟩ := hM
  unfold ny_Mo
  rw [hG.1 7 (by omega) (by omega) (by omega) (by omega), hG.1 (7 + 1) (by omega) (by omega) (by omega) (by omega), ea 0 (by omega), ea 1 (by omega)]
  exact ⟨h1, fun q hq => by rw [ea _ (by omega)]; exact h2 q hq, m, h3, h4, fun q hq => by rw [ea _ (by omega)]; exact h5 q hq⟩
theorem q_Ba_restBestBy {o i k w top : Nat} (ho : o = 10 ∧ i = 10 + 5 * k ∧ w = 2 ∧ top = 9 ∨ o = 11 ∧ i = 11 + 5 * k ∧ w = 3 ∧ top = 5) (hB : ny_Ba I a) (hM : ny_Mo I 7 a) (hV : ny_V a) (hk : k < a 0) (h : ∀ I', nz_fr 28 I' I → Q (nI (nz_vfr a i top)) I') : ny_C1 (d + 6) m_Ba_restBestBy [.ref 6, .ref o, .int (nI k), .int (nI top)] Ln I Q := by
  have V1 := hV.1; have V2 := hV.2.1; have V3 := hV.2.2.1; have V4 := hV.2.2.2.1; have V5 := hV.2.2.2.2.1; obtain ⟨v0, v1, v2, v3, v5, v6, v7⟩ := V1
  have ho2 : o = 10 ∧ i = 10 + 5 * k ∨ o = 11 ∧ i = 11 + 5 * k := by omega
  have ei : i = 8 + 5 * k + w := by omega
  refine s_Ba_restBestBy_0 (by omega) ?_
  simp (disch := omega) only [ny_lit, nI_add, ny_mul, nI_clamp, ny_le, ny_lt, ny_eq, ny_div, ny_rem, ny_rem2, ny_inN, true_and]
  have key : ∀ n v best most (I1 : ny_I), v + n = top + 1 → best < 2 ^ 30 → nz_gb o k I1 I → nz_bst a i n v best most = nz_vfr a i top → ny_g (d + 6) m_Ba_restBestBy 14 [(0, .ref 6), (1, .ref o), (2, .int (nI k)), (3, .int (nI top)), (4, .int (I o k)), (5, .int (nI best)), (6, .int most), (7, .int (nI v))] [] Ln I1 (ny_r1 Ln Q) := by
    intro n
    induction n with
    | zero =>
      intro v best most I1 hv hb hG e
      refine s_Ba_restBestBy_14 (by omega) ?_
      simp (disch := omega) only [ny_lit, nI_add, ny_mul, nI_clamp, ny_le, ny_lt, ny_eq, ny_div, ny_rem, ny_rem2, ny_inN, true_and]
      refine ⟨fun _ => ?_, fun q => absurd q (by omega)⟩
      rw [nz_bst] at e
      rw [e]
      refine h _ ⟨fun q q1 q2 q3 => ?_, fun j hj => ?_⟩
      · by_cases c : q = o
        · subst c
          rw [ny_upeq]
          funext j
          unfold upd
          split
          · next c2 => rw [c2]
          · next c2 => exact hG.2.1 j c2
        · rw [ny_upne _ c]; exact hG.1 q q1 q2 q3 c
      · rw [ny_upne _ (by omega)]; exact hG.2.2 j hj
    | succ n ih =>
      intro v best most I1 hv hb hG e
      rw [nz_bst] at e
      refine s_Ba_restBestBy_14 (by omega) ?_
      simp (disch := omega) only [ny_lit, nI_add, ny_mul, nI_clamp, ny_le, ny_lt, ny_eq, ny_div, ny_rem, ny_rem2, ny_inN, true_and]
      refine ⟨fun q => absurd q (by omega), fun _ => ?_⟩
      have hG2 : nz_gb o k (ny_up I1 o k (nI v)) I := ⟨fun q q1 q2 q3 q4 => by rw [ny_upne _ q4]; exact hG.1 q q1 q2 q3 q4, fun j hj => by rw [ny_upeq]; unfold upd; rw [if_neg hj]; exact hG.2.1 j hj, fun j hj => by rw [ny_upne _ (by omega)]; exact hG.2.2 j hj⟩
      have hB2 := nz_Ba_o ho2 (by omega) hV hB hG2 (u := v) (by rw [ny_upeq]; unfold upd; rw [if_pos rfl])
      have hM2 := nz_Mo_o (u := v) ho2 hM hG2
      refine q_Ba_restWorth hB2 hM2 (by rw [ei]; exact nz_V_up hV (by omega) (by omega)) (by decide) fun I3 hF3 => ?_
      have hG3 : nz_gb o k I3 I := ⟨fun q q1 q2 q3 q4 => by rw [hF3.1 q q1 q2 q3]; exact hG2.1 q q1 q2 q3 q4, fun j hj => by rw [hF3.1 o (by omega) (by omega) (by omega)]; exact hG2.2.1 j hj, fun j hj => by rw [hF3.2 j hj]; exact hG2.2.2 j hj⟩
      refine ⟨fun c => ?_, fun c => ?_⟩
      · rw [if_pos c] at e
        exact ih (v + 1) best most I3 (by omega) hb hG3 e
      · rw [if_neg c] at e
        exact ih (v + 1) v _ I3 (by omega) (by omega) hG3 e
  exact key (top + 1) 0 0 _ I (by omega) (by decide) ⟨fun _ _ _ _ _ => rfl, fun _ _ => rfl, fun _ _ => rfl⟩ rfl
end NZBC
