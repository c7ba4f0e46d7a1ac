/-- what a bell with an act is worth -/
def ny_gow (a : ny_a) (act : Nat) : Nat := (ny_tld a act).1 + ny_sms (ny_tld a act).2.2 (ny_tld a act).2.1 0 ((ny_tld a act).2.2 0)
/-- the numbers behind it -/
def ny_goa (a : ny_a) (act : Nat) : ny_a := ny_fin (ny_tld a act).2.2 (ny_tld a act).2.1 (ny_gow a act)
theorem nz_au_ne {a : ny_a} {i j v : Nat} (h : j ≠ i) : ny_au a i v j = a j := if_neg h
theorem nz_au_eq {a : ny_a} {i v : Nat} : ny_au a i v i = v := if_pos rfl
theorem nz_au9_V {a : ny_a} (hV : ny_V a) {k v : Nat} (hk : k < 6) (hv : v ≤ 99) : ny_V (ny_au a (9 + 5 * k) v) := by
  refine nz_V_mv hV (fun j _ _ h => nz_au_ne (h k hk).1) ?_ fun q hq => ⟨?_, ?_⟩
  · rw [nz_au_ne (by omega)]; exact hV.1.2.1
  · by_cases h : q = k
    · subst h; rw [nz_au_eq]; exact hv
    · rw [nz_au_ne (by omega)]; exact (hV.2.1 q hq).2.1
  · rw [nz_au_ne (by omega)]; exact (hV.2.1 q hq).2.2.2.2
theorem nz_au12_V {a : ny_a} (hV : ny_V a) {k v : Nat} (hk : k < 6) (hv : v ≤ 1) : ny_V (ny_au a (12 + 5 * k) v) := by
  refine nz_V_mv hV (fun j _ _ h => nz_au_ne (h k hk).2) ?_ fun q hq => ⟨?_, ?_⟩
  · rw [nz_au_ne (by omega)]; exact hV.1.2.1
  · rw [nz_au_ne (by omega)]; exact (hV.2.1 q hq).2.1
  · by_cases h : q = k
    · subst h; rw [nz_au_eq]; exact hv
    · rw [nz_au_ne (by omega)]; exact (hV.2.1 q hq).2.2.2.2
theorem nz_fin_Sm (a : ny_a) (aw w : Nat) : ny_Sm (ny_fin a aw w) a := by
  intro j h1 h3 h
  unfold ny_fin
  rw [if_neg h1, if_neg h3]
  exact nz_wrp_o fun k hk => (h k hk).1
theorem nz_fin_V {a : ny_a} (hV : ny_V a) (h : a 1 < a 2) (aw w : Nat) : ny_V (ny_fin a aw w) := by
  refine nz_V_mv hV (nz_fin_Sm a aw w) h fun k hk => ?_
  have := nz_wrp_V hV aw (a 0)
  have h2 := this.2.1 k hk
  unfold ny_fin
  rw [if_neg (by omega), if_neg (by omega), if_neg (by omega), if_neg (by omega)]
  exact ⟨h2.2.1, h2.2.2.2.2⟩
theorem nz_Sm_tr {a b c : ny_a} (h1 : ny_Sm a b) (h2 : ny_Sm b c) : ny_Sm a c := fun j x y z => (h1 j x y z).trans (h2 j x y z)
/-- the told one's act: bounds -/
theorem nz_tld {a : ny_a} (hV : ny_V a) {act : Nat} (h : act ≤ a 0) : (ny_tld a act).1 ≤ 19 ∧ (ny_tld a act).2.1 ≤ 6 ∧ ny_V (ny_tld a act).2.2 ∧ ny_Sm (ny_tld a act).2.2 a ∧ (ny_tld a act).2.2 0 = a 0 ∧ (ny_tld a act).2.2 1 = a 1 ∧ (ny_tld a act).2.2 2 = a 2 ∧ (ny_tld a act).2.2 3 = a 3 := by
  have v := hV.1
  have r : ∀ b : ny_a, ny_Sm b b := fun b j _ _ _ => rfl
  unfold ny_tld
  split
  · exact ⟨Nat.zero_le _, Nat.le_refl _, hV, r a, rfl, rfl, rfl, rfl⟩
  split
  · exact ⟨Nat.zero_le _, Nat.le_refl _, hV, r a, rfl, rfl, rfl, rfl⟩
  split
  · have hp := nz_pay_le (k := act - 1) hV (by omega)
    by_cases h0 : 0 < ny_pay a (act - 1)
    · simp only [if_pos h0]
      exact ⟨hp, Nat.le_refl _, nz_au12_V hV (by omega) (by omega), fun j _ _ hh => nz_au_ne (hh _ (by omega)).2, nz_au_ne (by omega), nz_au_ne (by omega), nz_au_ne (by omega), nz_au_ne (by omega)⟩
    · simp only [if_neg h0]
      exact ⟨hp, Nat.le_refl _, hV, r a, trivial, trivial, trivial, trivial⟩
  split
  · have := (hV.2.1 (act - 1) (by omega)).2.1
    exact ⟨by omega, by show act - 1 ≤ 6; omega, nz_au9_V hV (by omega) (by omega), fun j _ _ hh => nz_au_ne (hh _ (by omega)).1, nz_au_ne (by omega), nz_au_ne (by omega), nz_au_ne (by omega), nz_au_ne (by omega)⟩
  · exact ⟨Nat.zero_le _, Nat.le_refl _, hV, r a, rfl, rfl, rfl, rfl⟩
theorem nz_go {a : ny_a} (hV : ny_V a) {act : Nat} (h : act ≤ a 0) (hb : a 1 < a 2) : ny_gow a act ≤ 85 ∧ ny_V (ny_goa a act) ∧ ny_Sm (ny_goa a act) a ∧ ny_goa a act 1 = a 1 + 1 ∧ ny_goa a act 3 = a 3 + ny_gow a act := by
  obtain ⟨h1, h2, h3, h4, h5, h6, h7, h8⟩ := nz_tld hV h
  have v := hV.1
  refine ⟨?_, ?_, ?_, ?_, ?_⟩
  · unfold ny_gow
    have := nz_sms_le (aw := (ny_tld a act).2.1) h3 ((ny_tld a act).2.2 0) 0 (by omega)
    omega
  · exact nz_fin_V h3 (by omega) _ _
  · exact nz_Sm_tr (nz_fin_Sm _ _ _) h4
  · unfold ny_goa ny_fin; rw [if_pos rfl, h6]
  · unfold ny_goa ny_fin; rw [if_neg (by decide), if_pos rfl, h8]
section NZG2
variable {d Ln : Nat} {I : ny_I} {Q : Int32 → ny_I → Prop} {a : ny_a}
theorem q_Md_goesWith {act : Nat} (ha : ny_Md I a) (hV : ny_V a) (hact : act ≤ a 0) (h : ∀ I', ny_Md I' (ny_goa a act) → (∀ c, c ≠ 103 → I' c = I c) → Q (nI (ny_gow a act)) I') :
    ny_C1 (d + 4) m_Md_goesWith [.ref 102, .int (nI act)] Ln I Q := by
  have V1 := hV.1; have V2 := hV.2.1; have V3 := hV.2.2.1; have V4 := hV.2.2.2.1; have V5 := hV.2.2.2.2.1; obtain ⟨v0, v1, v2, v3, v5, v6, v7⟩ := V1
  -- the sums and the weary, behind the told one's act
  have hs : ∀ (aw w : Nat) (a1 : ny_a) (I1 : ny_I), aw ≤ 6 → ny_V a1 → ny_Md I1 a1 → (∀ c, c ≠ 103 → I1 c = I c) → ny_tld a act = (w, aw, a1) → ny_g (d + 4) m_Md_goesWith 108 [(0, .ref 102), (4, .int (nz_aw aw)), (5, .int (nI w)), (6, .int (nI 0))] [] Ln I1 (ny_r1 Ln Q) := by
    intro aw w a1 I1 haw hV1 ha1 hI e
    refine q_Md_gw108 hV1 haw ha1 (a1 0) 0 w (by omega) fun I' h1 h2 => ?_
    unfold ny_goa ny_gow at h
    rw [e] at h
    exact h I' h1 fun c hc => by rw [h2 c hc, hI c hc]
  refine s_Md_goesWith_0 ?_
  by_cases h0 : act = 0
  · subst h0
    refine ⟨fun _ => ?_, fun c => absurd (by decide +kernel) c⟩
    refine s_Md_goesWith_36 ⟨fun _ => ?_, fun c => absurd c (by decide)⟩
    refine s_Md_goesWith_72 ⟨fun _ => ?_, fun c => absurd (by decide +kernel) c⟩
    exact hs 6 0 a I (by omega) hV ha (fun _ _ => rfl) (by unfold ny_tld; rw [if_pos rfl])
  · obtain ⟨k, rfl⟩ : ∃ k, act = k + 1 := ⟨act - 1, by omega⟩
    have hk : k < 6 := by omega
    have ek : nI (k + 1) - (1 : Int32) = nI k := nI_pred k
    have hp := nz_pay_le hV hk
    have hw2 := nz_wil_le (k := k) hV
    have U := V2 k hk
    rw [ek]
    have et : ny_tld a (k + 1) = if ny_upb a k = false then (0, 6, a) else if ny_wil a k = 0 then (ny_pay a k, 6, if 0 < ny_pay a k then ny_au a (12 + 5 * k) 1 else a) else if ny_wil a k = 2 then (0, k, ny_au a (9 + 5 * k) (a (9 + 5 * k) - 25)) else (0, 6, a) := by
      unfold ny_tld
      rw [if_neg (by omega)]
      rfl
    refine ⟨fun c => absurd c (nI_pos (by omega)), fun _ => q_Md_isUp (d := d + 2) ha hV hk ?_⟩
    -- nothing told: as one who keeps
    have keep : ∀ x : Int32, ¬ x = 0 → ny_tld a (k + 1) = (0, 6, a) → ny_g (d + 4) m_Md_goesWith 36 [(0, .ref 102), (2, .int (nI k)), (3, .int x)] [.int (-1 : Int32)] Ln I (ny_r1 Ln Q) := by
      intro x hx e
      refine s_Md_goesWith_36 ⟨fun _ => ?_, fun c => absurd c hx⟩
      refine s_Md_goesWith_72 ⟨fun _ => ?_, fun c => absurd (by decide +kernel) c⟩
      exact hs 6 0 a I (by omega) hV ha (fun _ _ => rfl) e
    by_cases hu : ny_upb a k = true
    · rw [if_pos hu]
      rw [if_neg (by simp [hu])] at et
      refine ⟨fun c => absurd c (by decide), fun _ => q_Md_will ha hV hk ?_⟩
      simp (disch := omega) only [ny_lit, nI_add, ny_mul, nI_clamp, ny_le, ny_lt, ny_eq, ny_div, ny_rem, ny_rem2, ny_inN]
      refine ⟨fun c2 => ?_, fun c2 => ?_⟩
      · by_cases c0 : ny_wil a k = 0
        · rw [if_pos c0] at et
          rw [c0]
          refine s_Md_goesWith_36 ⟨fun c => absurd rfl c, fun _ => q_Md_pays (d := d + 1) ha hV hk ?_⟩
          have e4 : 8 + 5 * k + 4 = 12 + 5 * k := by omega
          simp (disch := omega) only [ny_lit, nI_add, ny_mul, nI_clamp, ny_le, ny_lt, ny_eq, ny_div, ny_rem, ny_rem2, ny_inN, true_and, e4]
          refine ⟨fun c => ?_, fun c => ?_⟩
          · rw [if_neg (by omega)] at et
            refine s_Md_goesWith_72 ⟨fun _ => ?_, fun c => absurd (by decide +kernel) c⟩
            exact hs 6 _ a I (by omega) hV ha (fun _ _ => rfl) et
          · rw [if_pos (by omega)] at et
            refine s_Md_goesWith_72 ⟨fun _ => ?_, fun c => absurd (by decide +kernel) c⟩
            exact hs 6 _ _ _ (by omega) (nz_au12_V hV hk (by omega)) (nz_Md_up ha (12 + 5 * k) 1) (fun c hc => ny_upne _ hc _ _) et
        · rw [if_neg c0, if_neg c2] at et
          exact keep _ (fun e => c0 ((ny_eq (by omega) (by decide)).mp e)) et
      · rw [c2] at et ⊢
        rw [if_neg (by decide), if_pos rfl] at et
        refine s_Md_goesWith_36 ⟨fun _ => ?_, fun c => absurd c (by decide)⟩
        refine s_Md_goesWith_72 ⟨fun c => absurd c (nI_pos (by omega)), fun _ => q_Md_t1 ha hk ?_⟩
        simp only [ny_lit]
        refine q_Md_gr0 (by omega) (by omega) ?_
        have e1 : 8 + 5 * k + 1 = 9 + 5 * k := by omega
        simp (disch := omega) only [ny_lit, nI_add, ny_mul, nI_clamp, ny_le, ny_lt, ny_eq, ny_div, ny_rem, ny_rem2, ny_inN, true_and, e1]
        have := hs k 0 _ _ (by omega) (nz_au9_V hV hk (v := a (9 + 5 * k) - 25) (by omega)) (nz_Md_up ha (9 + 5 * k) (a (9 + 5 * k) - 25)) (fun c hc => ny_upne _ hc _ _) et
        unfold nz_aw at this
        rw [if_pos hk] at this
        exact this
    · rw [if_neg hu]
      rw [if_pos (by simpa using hu)] at et
      exact ⟨fun _ => keep _ (by decide) et, fun c => absurd rfl c⟩
end NZG2
