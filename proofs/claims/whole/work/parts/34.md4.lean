/-! the model: a bell goes by -/
theorem nz_wrp_o {a : ny_a} {aw m j : Nat} (h : ∀ k, k < 6 → j ≠ 9 + 5 * k) : ny_wrp a aw m j = a j := by
  unfold ny_wrp
  rw [if_neg]
  rintro ⟨h1, h2, h3, -⟩
  exact h ((j - 8) / 5) (by omega) (by omega)
theorem nz_wrp_t {a : ny_a} {aw m k : Nat} (hk : k < 6) : ny_wrp a aw m (9 + 5 * k) = if k < m ∧ k ≠ aw ∧ a (12 + 5 * k) = 0 then min 99 (a (9 + 5 * k) + ny_wry a k) else a (9 + 5 * k) := by
  unfold ny_wrp
  rw [show (9 + 5 * k - 8) / 5 = k by omega]
  by_cases h : k < m ∧ k ≠ aw ∧ a (12 + 5 * k) = 0
  · rw [if_pos ⟨by omega, by omega, by omega, h⟩, if_pos h]
  · rw [if_neg (fun q => h q.2.2.2), if_neg h]
theorem nz_wrp_0 {a : ny_a} {aw : Nat} : ny_wrp a aw 0 = a := by
  funext j
  unfold ny_wrp
  rw [if_neg]
  rintro ⟨-, -, -, h, -⟩
  omega
theorem nz_wrp_s {a : ny_a} {aw o v : Nat} (ho : o < 6) (hv : v = if o ≠ aw ∧ a (12 + 5 * o) = 0 then min 99 (a (9 + 5 * o) + ny_wry a o) else a (9 + 5 * o)) : ny_au (ny_wrp a aw o) (9 + 5 * o) v = ny_wrp a aw (o + 1) := by
  funext j
  unfold ny_au
  by_cases hj : j = 9 + 5 * o
  · subst hj
    rw [if_pos rfl, nz_wrp_t ho, hv]
    by_cases h : o ≠ aw ∧ a (12 + 5 * o) = 0
    · rw [if_pos h, if_pos ⟨by omega, h⟩]
    · rw [if_neg h, if_neg (fun q => h q.2)]
  · rw [if_neg hj]
    by_cases h9 : ∃ k, k < 6 ∧ j = 9 + 5 * k
    · obtain ⟨k, hk, rfl⟩ := h9
      rw [nz_wrp_t hk, nz_wrp_t hk]
      have : (k < o ↔ k < o + 1) := by omega
      simp only [this]
    · rw [nz_wrp_o (fun k hk e => h9 ⟨k, hk, e⟩), nz_wrp_o (fun k hk e => h9 ⟨k, hk, e⟩)]
theorem nz_wry_c {a a' : ny_a} (h : ny_Sm a' a) (h1 : a' 1 = a 1) (k : Nat) (hk : k < 6) (hn : a (11 + 5 * k) ≤ 5) : ny_wry a' k = ny_wry a k := by
  unfold ny_wry nz_W
  have e : ∀ j, 38 ≤ j → a' j = a j := fun j hj => h j (by omega) (by omega) fun q hq => by omega
  rw [h1, h (8 + 5 * k) (by omega) (by omega) (fun q hq => by omega), h (11 + 5 * k) (by omega) (by omega) (fun q hq => by omega), e _ (by omega), e _ (by omega)]
theorem nz_wrp_Sm (a : ny_a) (aw m : Nat) : ny_Sm (ny_wrp a aw m) a := fun j _ _ h => nz_wrp_o fun k hk => (h k hk).1
theorem nz_wrp_V {a : ny_a} (hV : ny_V a) (aw m : Nat) : ny_V (ny_wrp a aw m) := by
  refine nz_V_mv hV (nz_wrp_Sm a aw m) ?_ fun k hk => ⟨?_, ?_⟩
  · rw [nz_wrp_o (by omega)]; exact hV.1.2.1
  · rw [nz_wrp_t hk]
    have := (hV.2.1 k hk).2.1
    split <;> omega
  · rw [nz_wrp_o (by omega)]; exact (hV.2.1 k hk).2.2.2.2
theorem nz_Md_up {I : ny_I} {a : ny_a} (h : ny_Md I a) (i v : Nat) : ny_Md (ny_up I 103 i (nI v)) (ny_au a i v) := by
  intro j
  rw [ny_upeq]
  unfold upd ny_au
  split
  · rfl
  · exact h j
/-- who is away, as the model tells it -/
def nz_aw (aw : Nat) : Int32 := if aw < 6 then nI aw else -1
theorem nz_aw_eq {o aw : Nat} (ho : o < 6) : nI o = nz_aw aw ↔ o = aw := by
  unfold nz_aw
  by_cases h : aw < 6
  · rw [if_pos h]; exact ny_eq (by omega) (by omega)
  · rw [if_neg h]
    constructor
    · intro e
      have := congrArg Int32.toInt e
      rw [nI_toInt (by omega)] at this
      rw [show (-1 : Int32).toInt = -1 by decide] at this
      omega
    · intro e; omega
theorem nz_aw_lt {aw : Nat} : nz_aw aw < 0 ↔ 6 ≤ aw := by
  unfold nz_aw
  by_cases h : aw < 6
  · rw [if_pos h]
    exact ⟨fun q => absurd q (nI_pos (by omega)), fun q => by omega⟩
  · rw [if_neg h]
    exact ⟨fun _ => by omega, fun _ => by decide⟩
/-- behind the weary: the bell is one more, the score -/
def ny_fin (a : ny_a) (aw w : Nat) : ny_a := fun j => if j = 1 then a 1 + 1 else if j = 3 then a 3 + w else ny_wrp a aw (a 0) j
section NZG
variable {d Ln : Nat} {I : ny_I} {Q : Int32 → ny_I → Prop} {a : ny_a}
theorem q_Md_gw150 {aw w : Nat} (hV : ny_V a) (hw : aw ≤ 6) : ∀ (n o : Nat) (I : ny_I), o + n = a 0 → ny_Md I (ny_wrp a aw o) → (∀ I', ny_Md I' (ny_fin a aw w) → (∀ c, c ≠ 103 → I' c = I c) → Q (nI w) I') →
    ny_g (d + 4) m_Md_goesWith 150 [(0, .ref 102), (4, .int (nz_aw aw)), (5, .int (nI w)), (6, .int (nI o))] [] Ln I (ny_r1 Ln Q) := by
  have V1 := hV.1; have V2 := hV.2.1; have V3 := hV.2.2.1; have V4 := hV.2.2.2.1; have V5 := hV.2.2.2.2.1; obtain ⟨v0, v1, v2, v3, v5, v6, v7⟩ := V1
  intro n
  induction n with
  | zero =>
    intro o I ho ha h
    have e0 : ny_wrp a aw o 0 = a 0 := nz_wrp_o (by omega)
    have e1 : ny_wrp a aw o 1 = a 1 := nz_wrp_o (by omega)
    have e3 : ny_wrp a aw o 3 = a 3 := nz_wrp_o (by omega)
    refine s_Md_goesWith_150 ?_
    simp (disch := omega) only [ny_lit, nI_add, ny_mul, nI_clamp, ny_le, ny_lt, ny_eq, ny_div, ny_rem, ny_rem2, ny_inN, ha _, true_and, e0, e1]
    refine ⟨fun _ => ?_, fun c => absurd c (by omega)⟩
    have h1 := nz_Md_up ha 1 (a 1 + 1)
    rw [h1 3]
    have h3 := nz_Md_up h1 3 (a 3 + w)
    rw [show ny_au (ny_wrp a aw o) 1 (a 1 + 1) 3 = a 3 by unfold ny_au; rw [if_neg (by decide)]; exact e3]
    simp (disch := omega) only [ny_lit, nI_add, ny_mul, nI_clamp, ny_le, ny_lt, ny_eq, ny_div, ny_rem, ny_rem2, ny_inN]
    refine h _ ?_ fun c hc => by rw [ny_upne _ hc, ny_upne _ hc]
    intro j
    rw [h3 j]
    unfold ny_au ny_fin
    have : o = a 0 := by omega
    subst this
    by_cases j1 : j = 1
    · subst j1; rfl
    · by_cases j3 : j = 3
      · subst j3; rfl
      · rw [if_neg j3, if_neg j1, if_neg j1, if_neg j3]
  | succ n ih =>
    intro o I ho ha h
    have ho6 : o < 6 := by omega
    have e0 : ny_wrp a aw o 0 = a 0 := nz_wrp_o (by omega)
    have et : ny_wrp a aw o (9 + 5 * o) = a (9 + 5 * o) := by rw [nz_wrp_t ho6, if_neg (by omega)]
    have er : ny_wrp a aw o (12 + 5 * o) = a (12 + 5 * o) := nz_wrp_o (by omega)
    have hV' := nz_wrp_V hV aw o
    have U := V2 o ho6
    have hwr := nz_wry_le (k := o) hV
    have ewr : ny_wry (ny_wrp a aw o) o = ny_wry a o := nz_wry_c (nz_wrp_Sm a aw o) (nz_wrp_o (by omega)) o ho6 U.2.2.2.1
    have e9 : 8 + 5 * o + 1 = 9 + 5 * o := by omega
    have next : ∀ v, v = (if o ≠ aw ∧ a (12 + 5 * o) = 0 then min 99 (a (9 + 5 * o) + ny_wry a o) else a (9 + 5 * o)) → ny_g (d + 4) m_Md_goesWith 150 [(0, .ref 102), (4, .int (nz_aw aw)), (5, .int (nI w)), (6, .int (nI (o + 1)))] [] Ln (ny_up I 103 (9 + 5 * o) (nI v)) (ny_r1 Ln Q) := by
      intro v hv
      refine ih (o + 1) _ (by omega) ?_ fun I' h1 h2 => h I' h1 fun c hc => by rw [h2 c hc, ny_upne _ hc]
      have := nz_Md_up ha (9 + 5 * o) v
      rw [nz_wrp_s ho6 hv] at this
      exact this
    have g0 : ny_g (d + 4) m_Md_goesWith 183 [(0, .ref 102), (4, .int (nz_aw aw)), (5, .int (nI w)), (6, .int (nI o))] [.int (nI 0)] Ln I (ny_r1 Ln Q) ∨ (o ≠ aw ∧ a (12 + 5 * o) = 0) := by
      by_cases hc : o ≠ aw ∧ a (12 + 5 * o) = 0
      · exact Or.inr hc
      · refine Or.inl (s_Md_goesWith_183 ⟨fun _ => ?_, fun c => absurd rfl c⟩)
        simp (disch := omega) only [ny_lit, nI_add, ny_mul, nI_clamp, ny_le, ny_lt, ny_eq, ny_div, ny_rem, ny_rem2, ny_inN, true_and, e9]
        refine q_Md_t1 ha ho6 ?_
        rw [et]
        exact next _ (by rw [if_neg hc])
    have g1 : o ≠ aw ∧ a (12 + 5 * o) = 0 → ny_g (d + 4) m_Md_goesWith 183 [(0, .ref 102), (4, .int (nz_aw aw)), (5, .int (nI w)), (6, .int (nI o))] [.int (nI 1)] Ln I (ny_r1 Ln Q) := by
      intro hc
      refine s_Md_goesWith_183 ⟨fun c => absurd c (by decide), fun _ => ?_⟩
      simp (disch := omega) only [ny_lit, nI_add, ny_mul, nI_clamp, ny_le, ny_lt, ny_eq, ny_div, ny_rem, ny_rem2, ny_inN, true_and, e9]
      refine q_Md_t1 ha ho6 (q_Md_wearied ha hV' ho6 ?_)
      rw [et, ewr]
      simp (disch := omega) only [ny_lit, nI_add, ny_mul, nI_clamp, ny_le, ny_lt, ny_eq, ny_div, ny_rem, ny_rem2, ny_inN, true_and]
      refine q_Md_lst (by omega) (by omega) ?_
      exact next _ (by rw [if_pos hc])
    refine s_Md_goesWith_150 ?_
    simp (disch := omega) only [ny_lit, nI_add, ny_mul, nI_clamp, ny_le, ny_lt, ny_eq, ny_div, ny_rem, ny_rem2, ny_inN, ha _, true_and, e0, nz_aw_eq]
    refine ⟨fun c => absurd c (by omega), fun _ => ⟨fun c => g0.resolve_right (fun q => q.1 c), fun c => q_Md_t4 ha ho6 ?_⟩⟩
    rw [er]
    simp (disch := omega) only [ny_lit, nI_add, ny_mul, nI_clamp, ny_le, ny_lt, ny_eq, ny_div, ny_rem, ny_rem2, ny_inN]
    exact ⟨fun c2 => g0.resolve_right (fun q => c2 q.2), fun c2 => g1 ⟨c, c2⟩⟩
theorem nz_sms_le {aw : Nat} (hV : ny_V a) : ∀ n o, o + n ≤ 6 → ny_sms a aw o n ≤ 11 * n := by
  intro n
  induction n with
  | zero => intro o _; exact Nat.le_refl _
  | succ n ih =>
    intro o h
    rw [ny_sms]
    have := ih (o + 1) (by omega)
    have := nz_shn_le (k := o) hV (by omega)
    split <;> omega
theorem q_Md_gw108 {aw : Nat} (hV : ny_V a) (hw : aw ≤ 6) (ha : ny_Md I a) : ∀ (n o w : Nat), o + n = a 0 → (∀ I', ny_Md I' (ny_fin a aw (w + ny_sms a aw o n)) → (∀ c, c ≠ 103 → I' c = I c) → Q (nI (w + ny_sms a aw o n)) I') →
    ny_g (d + 4) m_Md_goesWith 108 [(0, .ref 102), (4, .int (nz_aw aw)), (5, .int (nI w)), (6, .int (nI o))] [] Ln I (ny_r1 Ln Q) := by
  have V1 := hV.1; have V2 := hV.2.1; have V3 := hV.2.2.1; have V4 := hV.2.2.2.1; have V5 := hV.2.2.2.2.1; obtain ⟨v0, v1, v2, v3, v5, v6, v7⟩ := V1
  intro n
  induction n with
  | zero =>
    intro o w ho h
    refine s_Md_goesWith_108 ?_
    simp (disch := omega) only [ny_lit, nI_add, ny_mul, nI_clamp, ny_le, ny_lt, ny_eq, ny_div, ny_rem, ny_rem2, ny_inN, ha _, true_and]
    refine ⟨fun _ => ?_, fun c => absurd c (by omega)⟩
    exact q_Md_gw150 hV hw (a 0) 0 I (by omega) (by rw [nz_wrp_0]; exact ha) h
  | succ n ih =>
    intro o w ho h
    rw [ny_sms, ← Nat.add_assoc] at h
    refine s_Md_goesWith_108 ?_
    simp (disch := omega) only [ny_lit, nI_add, ny_mul, nI_clamp, ny_le, ny_lt, ny_eq, ny_div, ny_rem, ny_rem2, ny_inN, ha _, true_and, nz_aw_eq]
    refine ⟨fun c => absurd c (by omega), fun _ => ⟨fun c => q_Md_shown ha hV (by omega) ?_, fun c => ?_⟩⟩
    · rw [if_neg c] at h
      simp (disch := omega) only [ny_lit, nI_add, ny_mul, nI_clamp, ny_le, ny_lt, ny_eq, ny_div, ny_rem, ny_rem2, ny_inN]
      exact ih (o + 1) _ (by omega) h
    · rw [if_pos c] at h
      exact ih (o + 1) _ (by omega) h
end NZG
