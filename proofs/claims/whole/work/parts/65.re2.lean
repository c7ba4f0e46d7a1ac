/-! the model: a lone nymph, the liar; the class's search -/
section NZRF
variable {d Ln : Nat} {I : ny_I} {Q : Int32 → ny_I → Prop} {Q0 : ny_I → Prop} {a : ny_a}
theorem nz_ef_r (I : ny_I) : nz_ef I I := ⟨fun _ _ _ _ => rfl, fun _ _ _ => rfl⟩
theorem nz_ef_t {I1 I2 I3 : ny_I} (h : nz_ef I1 I2) (h2 : nz_ef I2 I3) : nz_ef I1 I3 := ⟨fun c x y z => (h.1 c x y z).trans (h2.1 c x y z), fun j x y => (h.2 j x y).trans (h2.2 j x y)⟩
theorem nz_Md_e {I' : ny_I} (ha : ny_Md I a) (h : nz_ef I' I) : ny_Md I' a := fun j => by rw [h.1 103 (by decide) (by decide) (by decide)]; exact ha j
theorem nz_ff_500 {b : Nat} : (nz_ff a b).1 ≤ 500 ∧ (nz_ff a b).2 < 600 := by
  have := nz_ff_b (a := a) (b := b) 500 100 (0, 0)
  exact ⟨by have := this.1; unfold nz_ff; omega, this.2 (by decide) (by decide)⟩
theorem q_Md_nymph {x : Int32} (ha : ny_Md I a) (hV : ny_V a) (h : ∀ I', nz_ef I' I → Q (o_nymph x a) I') : ny_C1 (d + 4) m_Md_nymph [.ref 102, .int x] Ln I Q := by
  refine s_Md_nymph_0 (q_Md_I 0 3 rfl rfl (by decide) (by decide) (fun w ew _ hw ex => ⟨fun _ => ?_, fun q => absurd q (by decide)⟩) fun ew => ⟨fun q => absurd rfl q, fun _ => ?_⟩)
  · rw [ny_m1]
    refine q_Md_findsFits (b := nz_none) ha hV nz_nb6 fun I' hF e1 e2 => ?_
    have := h I' hF
    simp only [o_nymph, ew] at this
    obtain ⟨f1, f2⟩ := nz_ff_500 (a := a) (b := nz_none)
    subst ex
    rw [e1]
    by_cases c : (nz_ff a nz_none).1 = 0
    · rw [c] at this ⊢
      simp (disch := omega) only [ny_lit, nI_add, ny_mul, nI_clamp, ny_le, ny_lt, ny_eq, ny_div, ny_rem, ny_rem2, ny_inN]
      refine ⟨fun w0 => ⟨fun q => absurd w0 q, fun _ => ?_⟩, fun w0 => ⟨fun q => absurd trivial q, fun _ => ⟨fun _ => ?_, fun q => absurd q w0⟩⟩⟩
      · rw [if_pos w0] at this; exact this
      · rw [if_neg w0, if_pos rfl] at this
        rw [show -nI 3 = nI 4294967293 from ny_m3]; exact this
    · have e2 := e2 (by omega)
      rw [e2]
      generalize (nz_ff a nz_none).1 = c1 at *
      generalize (nz_ff a nz_none).2 = c2 at *
      have d1 := Nat.div_le_self c2 10
      have r1 : nI (c2 / 10) - nI (c2 / 10 / 10 * 10) = nI (c2 / 10 % 10) := ny_rem2 (by omega) (by decide)
      have r2 : nI c2 - nI (c2 / 10 * 10) = nI (c2 % 10) := ny_rem2 (by omega) (by decide)
      simp (disch := omega) only [ny_lit, nI_add, ny_mul, ny_eq, ny_div, r1, r2]
      refine ⟨fun w0 => ⟨fun q => absurd w0 q, fun _ => ?_⟩, fun w0 => ⟨fun _ => ⟨fun w1 => ⟨fun w2 => ?_, fun w2 => ?_⟩, fun w1 => ?_⟩, fun q => absurd q c⟩⟩
      · rw [if_pos w0] at this; exact this
      · rw [if_neg w0, if_neg c, if_neg w1, if_neg w2] at this; exact this
      · rw [if_neg w0, if_neg c, if_neg w1, if_pos w2] at this; exact this
      · rw [if_neg w0, if_neg c, if_pos w1] at this; exact this
  · simp only [o_nymph, ew] at h
    rw [ny_m1]; exact h I (nz_ef_r I)
theorem q_Md_liar (ha : ny_Md I a) (hV : ny_V a) (h : ∀ I', nz_ef I' I → Q (o_liar a) I') : ny_C1 (d + 4) m_Md_liar [.ref 102] Ln I Q := by
  have V1 := hV.1; have V2 := hV.2.1; have V3 := hV.2.2.1; have V4 := hV.2.2.2.1; have V5 := hV.2.2.2.2.1; obtain ⟨v0, v1, v2, v3, v5, v6, v7⟩ := V1
  refine s_Md_liar_0 ?_
  rw [ny_m1]
  refine q_Md_findsFits (b := nz_none) ha hV nz_nb6 fun I1 hF e1 e2 => ?_
  obtain ⟨f1, f2⟩ := nz_ff_500 (a := a) (b := nz_none)
  unfold o_liar at h
  rw [e1]
  -- the end, with what was found
  have fin : ∀ (x1 : Int32) (x2 r : Nat) (I2 : ny_I), nz_ef I2 I → r ≤ a 6 → (r = a 6 ∨ x2 = 0 ∨ 0 ≤ x1) → x2 ≤ 1 → Q x1 I2 → ny_g (d + 4) m_Md_liar 23 [(0, .ref 102), (1, .int x1), (2, .int (nI x2)), (3, .int (nI r))] [] Ln I2 (ny_r1 Ln Q) := by
    intro x1 x2 r I2 hF2 hr hc hx hQ
    have h6 := nz_Md_e ha hF2 6
    refine s_Md_liar_23 ?_
    simp (disch := omega) only [ny_lit, nI_clamp, ny_inN, h6, ny_le, ny_eq, true_and]
    refine ⟨fun _ => hQ, fun c1 => ⟨fun _ => hQ, fun c2 => ⟨fun _ => hQ, fun c3 => ?_⟩⟩⟩
    rcases hc with q | q | q
    · omega
    · exact absurd q c2
    · exact absurd q c3
  simp (disch := omega) only [ny_lit, nI_add, ny_mul, nI_clamp, ny_le, ny_lt, ny_eq, ny_div, ny_rem, ny_rem2, ny_inN]
  refine ⟨fun c => ?_, fun c => ?_⟩
  · rw [if_neg c] at h
    rw [show -nI 3 = nI 4294967293 from ny_m3]
    exact fin _ 0 0 I1 hF (by omega) (Or.inr (Or.inl rfl)) (by decide) (h I1 hF)
  · rw [if_pos c] at h
    have key : ∀ n r (I2 : ny_I), r + n = a 6 → nz_ef I2 I → (∀ I', nz_ef I' I → Q (nz_lst a r n) I') → ny_g (d + 4) m_Md_liar 23 [(0, .ref 102), (1, .int (nI 4294967293)), (2, .int (nI 1)), (3, .int (nI r))] [] Ln I2 (ny_r1 Ln Q) := by
      intro n
      induction n with
      | zero => intro r I2 hr hF2 hQ; exact fin _ 1 r I2 hF2 (by omega) (Or.inl (by omega)) (by decide) (hQ I2 hF2)
      | succ n ih =>
        intro r I2 hr hF2 hQ
        have h6 := nz_Md_e ha hF2 6
        refine s_Md_liar_23 ?_
        simp (disch := omega) only [ny_lit, nI_add, nI_clamp, ny_inN, h6, ny_le, ny_eq, true_and]
        refine ⟨fun q => absurd q (by omega), fun _ => ⟨fun q => absurd q (by decide), fun _ => ⟨fun q => absurd q (by decide +kernel), fun _ => q_Md_findsFits (b := r) (nz_Md_e ha hF2) hV (fun r' hr' => ny_eq (by omega) (by omega)) fun I3 hF3 e3 e4 => ?_⟩⟩⟩
        obtain ⟨g1, g2⟩ := nz_ff_500 (a := a) (b := r)
        have hF3' := nz_ef_t hF3 hF2
        rw [e3, ny_le (b := 0) (by omega) (by decide)]
        refine ⟨fun c2 => ?_, fun c2 => ?_⟩
        · rw [show -nI 3 = nI 4294967293 from ny_m3]
          refine ih (r + 1) I3 (by omega) hF3' fun I' h' => ?_
          have := hQ I' h'
          rw [nz_lst, if_neg (by omega)] at this; exact this
        · have := hQ I3 hF3'
          rw [nz_lst, if_pos (by omega)] at this
          exact fin (nI r) 1 (r + 1) I3 hF3' (by omega) (Or.inr (Or.inr (nI_pos' (by omega)))) (by decide) this
    rw [show -nI 3 = nI 4294967293 from ny_m3]
    exact key (a 6) 0 I1 (by omega) hF h
end NZRF
/-- the reports that aren't so by the k-th nymph, as a set -/
def nz_ws (a : ny_a) (k : Nat) : nz_st := fun r => decide (r < a 6) && nz_wr a (k / 100) (k / 10 % 10) (k % 10 * 10) r
def nz_lr (a : ny_a) (m : Nat) (l : Nat) : Nat := nz_lp (fun r l => if m = 2 ^ r ∧ r < l then r else l) 0 (a 6) l
def nz_cs1 (a : ny_a) (k : Nat) (s : (Nat × Nat) × Nat) : (Nat × Nat) × Nat := (nz_fs1 a nz_none k s.1, nz_lr a (nz_msk (nz_ws a k)) s.2)
theorem nz_lp_s {α : Type} (g : Nat → α → α) : ∀ n o (s : α), nz_lp g o (n + 1) s = g (o + n) (nz_lp g o n s) := by
  intro n
  induction n with
  | zero => intro o s; rfl
  | succ n ih =>
    intro o s
    rw [nz_lp, ih (o + 1) (g o s), nz_lp]
    congr 1
    omega
def nz_cN (a : ny_a) (k : Nat) : (Nat × Nat) × Nat := nz_lp (nz_cs1 a) 100 (k - 100) ((0, 0), 6)
theorem nz_cN_s {a : ny_a} {k : Nat} (h : 100 ≤ k) : nz_cN a (k + 1) = nz_cs1 a k (nz_cN a k) := by
  unfold nz_cN
  rw [show k + 1 - 100 = (k - 100) + 1 by omega, nz_lp_s, show 100 + (k - 100) = k by omega]
theorem nz_cN_1 {a : ny_a} : ∀ n k (s : (Nat × Nat) × Nat), (nz_lp (nz_cs1 a) k n s).1 = nz_lp (nz_fs1 a nz_none) k n s.1 := by
  intro n
  induction n with
  | zero => intro k s; rfl
  | succ n ih => intro k s; rw [nz_lp, nz_lp, ih]; rfl
theorem nz_cN_f {a : ny_a} : (nz_cN a 600).1 = nz_ff a nz_none := nz_cN_1 500 100 ((0, 0), 6)
theorem nz_2inj : ∀ r, r < 6 → ∀ q, q < 6 → 2 ^ r = 2 ^ q → r = q := by decide
theorem nz_lr_i {a : ny_a} {m l : Nat} (h6 : a 6 ≤ 6) : (nz_lr a m l = l ∧ ∀ r, r < a 6 → m = 2 ^ r → l ≤ r) ∨ ∃ r, r < a 6 ∧ m = 2 ^ r ∧ r < l ∧ nz_lr a m l = r := by
  have key : ∀ n, n ≤ a 6 → (nz_lp (fun r l => if m = 2 ^ r ∧ r < l then r else l) 0 n l = l ∧ ∀ r, r < n → m = 2 ^ r → l ≤ r) ∨ ∃ r, r < n ∧ m = 2 ^ r ∧ r < l ∧ nz_lp (fun r l => if m = 2 ^ r ∧ r < l then r else l) 0 n l = r := by
    intro n
    induction n with
    | zero => intro _; exact Or.inl ⟨rfl, fun r h => by omega⟩
    | succ n ih =>
      intro hn
      rw [nz_lp_s, Nat.zero_add]
      rcases ih (by omega) with ⟨h1, h2⟩ | ⟨r, h1, h2, h3, h4⟩
      · rw [h1]
        by_cases c : m = 2 ^ n ∧ n < l
        · exact Or.inr ⟨n, by omega, c.1, c.2, if_pos c⟩
        · refine Or.inl ⟨if_neg c, fun r hr e => ?_⟩
          by_cases e2 : r = n
          · subst e2
            apply Classical.byContradiction
            intro q
            exact c ⟨e, by omega⟩
          · exact h2 r (by omega) e
      · rw [h4]
        refine Or.inr ⟨r, by omega, h2, h3, if_neg fun c => ?_⟩
        have := nz_2inj n (by omega) r (by omega) (by rw [← c.1, ← h2])
        omega
  exact key (a 6) (Nat.le_refl _)
/-- what the class's search has found -/
theorem nz_cN_l {a : ny_a} (h6 : a 6 ≤ 6) : ∀ n, ((nz_cN a (100 + n)).2 = 6 ∨ ((nz_cN a (100 + n)).2 < a 6 ∧ ∃ k, 100 ≤ k ∧ k < 100 + n ∧ nz_msk (nz_ws a k) = 2 ^ (nz_cN a (100 + n)).2)) ∧ ∀ k, 100 ≤ k → k < 100 + n → ∀ r, r < a 6 → nz_msk (nz_ws a k) = 2 ^ r → (nz_cN a (100 + n)).2 ≤ r := by
  intro n
  induction n with
  | zero => exact ⟨Or.inl rfl, fun k h1 h2 => by omega⟩
  | succ n ih =>
    rw [show 100 + (n + 1) = 100 + n + 1 by omega, nz_cN_s (by omega)]
    obtain ⟨i1, i2⟩ := ih
    generalize nz_cN a (100 + n) = s at *
    show ((nz_lr a (nz_msk (nz_ws a (100 + n))) s.2) = 6 ∨ _) ∧ _
    rcases nz_lr_i (a := a) (m := nz_msk (nz_ws a (100 + n))) (l := s.2) h6 with ⟨h1, h2⟩ | ⟨r, h1, h2, h3, h4⟩
    · refine ⟨?_, fun k k1 k2 r hr e => ?_⟩
      · show nz_lr a _ s.2 = 6 ∨ (nz_lr a _ s.2 < a 6 ∧ ∃ k, 100 ≤ k ∧ k < 100 + n + 1 ∧ nz_msk (nz_ws a k) = 2 ^ nz_lr a _ s.2)
        rw [h1]
        rcases i1 with q | ⟨q1, k, q2, q3, q4⟩
        · exact Or.inl q
        · exact Or.inr ⟨q1, k, q2, by omega, q4⟩
      · show nz_lr a _ s.2 ≤ r
        rw [h1]
        by_cases ek : k = 100 + n
        · subst ek; exact h2 r hr e
        · exact i2 k k1 (by omega) r hr e
    · refine ⟨?_, fun k k1 k2 r' hr e => ?_⟩
      · show nz_lr a _ s.2 = 6 ∨ (nz_lr a _ s.2 < a 6 ∧ ∃ k, 100 ≤ k ∧ k < 100 + n + 1 ∧ nz_msk (nz_ws a k) = 2 ^ nz_lr a _ s.2)
        rw [h4]
        exact Or.inr ⟨h1, 100 + n, by omega, by omega, h2⟩
      · show nz_lr a _ s.2 ≤ r'
        rw [h4]
        by_cases ek : k = 100 + n
        · subst ek
          have := nz_2inj r (by omega) r' (by omega) (by rw [← h2, e])
          omega
        · have := i2 k k1 (by omega) r' hr e
          omega
theorem nz_fk_i {a : ny_a} {b kind grace t0 : Nat} : ∀ n r, nz_fk a b kind grace t0 r n = true ↔ ∀ q, r ≤ q → q < r + n → q = b ∨ nz_wr a kind grace t0 q = false := by
  intro n
  induction n with
  | zero =>
    intro r
    constructor
    · intro _ q h1 h2; omega
    · intro _; rfl
  | succ n ih =>
    intro r
    rw [nz_fk, Bool.and_eq_true, ih, Bool.or_eq_true, decide_eq_true_eq, Bool.not_eq_true']
    constructor
    · rintro ⟨h1, h2⟩ q q1 q2
      by_cases e : q = r
      · subst e; exact h1
      · exact h2 q (by omega) (by omega)
    · intro h
      exact ⟨h r (by omega) (by omega), fun q q1 q2 => h q (by omega) (by omega)⟩
theorem nz_fit_i {a : ny_a} {b k : Nat} (h6 : a 6 ≤ 6) : nz_fit a b k = true ↔ ∀ q, q < 6 → nz_ws a k q = true → q = b := by
  unfold nz_fit
  rw [nz_fk_i]
  constructor
  · intro h q hq e
    unfold nz_ws at e
    rw [Bool.and_eq_true, decide_eq_true_eq] at e
    rcases h q (by omega) (by omega) with h1 | h1
    · exact h1
    · rw [h1] at e; exact absurd e.2 (by decide)
  · intro h q _ hq
    cases e : nz_wr a (k / 100) (k / 10 % 10) (k % 10 * 10) q with
    | false => exact Or.inr rfl
    | true => exact Or.inl (h q (by omega) (by unfold nz_ws; rw [e, decide_eq_true (by omega)]; rfl))
theorem nz_m0 : ∀ m, m < 64 → (m = 0 ↔ ∀ q, q < 6 → m.testBit q = false) := by decide +kernel
theorem nz_m2 : ∀ m, m < 64 → ∀ r, r < 6 → (m = 2 ^ r ↔ m ≠ 0 ∧ ∀ q, q < 6 → m.testBit q = true → q = r) := by decide +kernel
theorem nz_fit_n {a : ny_a} {k : Nat} (h6 : a 6 ≤ 6) : nz_fit a nz_none k = true ↔ nz_msk (nz_ws a k) = 0 := by
  have hm := nz_msk_k (nz_ws a k)
  rw [nz_fit_i h6, nz_m0 _ hm.1]
  constructor
  · intro h q hq
    rw [hm.2 q hq]
    cases e : nz_ws a k q with
    | false => rfl
    | true =>
      have := h q hq e
      unfold nz_none at this
      omega
  · intro h q hq e
    have := h q hq
    rw [hm.2 q hq, e] at this
    cases this
theorem nz_fit_r {a : ny_a} {k r : Nat} (h6 : a 6 ≤ 6) (hr : r < 6) (h0 : nz_msk (nz_ws a k) ≠ 0) : nz_fit a r k = true ↔ nz_msk (nz_ws a k) = 2 ^ r := by
  have hm := nz_msk_k (nz_ws a k)
  rw [nz_fit_i h6, nz_m2 _ hm.1 r hr]
  constructor
  · intro h
    refine ⟨h0, fun q hq e => h q hq ?_⟩
    rw [← hm.2 q hq]; exact e
  · rintro ⟨-, h⟩ q hq e
    exact h q hq (by rw [hm.2 q hq]; exact e)
theorem nz_ff_i {a : ny_a} {b : Nat} : 0 < (nz_ff a b).1 ↔ ∃ k, 100 ≤ k ∧ k < 600 ∧ nz_fit a b k = true := by
  have key : ∀ n, 0 < (nz_lp (nz_fs1 a b) 100 n (0, 0)).1 ↔ ∃ k, 100 ≤ k ∧ k < 100 + n ∧ nz_fit a b k = true := by
    intro n
    induction n with
    | zero =>
      constructor
      · intro h; exact absurd h (Nat.lt_irrefl 0)
      · rintro ⟨k, h1, h2, _⟩; omega
    | succ n ih =>
      rw [nz_lp_s]
      generalize nz_lp (nz_fs1 a b) 100 n (0, 0) = s at *
      by_cases c : nz_fit a b (100 + n) = true
      · have e : nz_fs1 a b (100 + n) s = (s.1 + 1, if s.1 = 0 then 100 + n else s.2) := if_pos c
        rw [e]
        exact ⟨fun _ => ⟨100 + n, by omega, by omega, c⟩, fun _ => Nat.succ_pos _⟩
      · have e : nz_fs1 a b (100 + n) s = s := if_neg c
        rw [e, ih]
        constructor
        · rintro ⟨k, h1, h2, h3⟩; exact ⟨k, h1, by omega, h3⟩
        · rintro ⟨k, h1, h2, h3⟩
          by_cases ek : k = 100 + n
          · subst ek; exact absurd h3 c
          · exact ⟨k, h1, by omega, h3⟩
  exact key 500
theorem nz_lst_i {a : ny_a} {l : Nat} : ∀ n r, r + n = a 6 → (∀ q, r ≤ q → q < a 6 → (0 < (nz_ff a q).1 ↔ q = l ∨ (l < q ∧ 0 < (nz_ff a q).1))) → (l < r → False) → nz_lst a r n = if l < a 6 then nI l else nI 4294967293 := by
  intro n
  induction n with
  | zero =>
    intro r hr h hl
    have : r ≤ l := Nat.le_of_not_lt hl
    rw [nz_lst, if_neg (by omega)]
  | succ n ih =>
    intro r hr h hl
    have h0 := h r (Nat.le_refl _) (by omega)
    rw [nz_lst]
    by_cases c : 0 < (nz_ff a r).1
    · rw [if_pos c]
      rcases h0.mp c with e | e
      · subst e; rw [if_pos (by omega)]
      · exact absurd e.1 (fun q => hl q)
    · rw [if_neg c]
      refine ih (r + 1) (by omega) (fun q q1 q2 => h q (by omega) q2) (fun q => ?_)
      have : l = r := by
        rcases Nat.lt_or_ge l r with q2 | q2
        · exact (hl q2).elim
        · omega
      subst this
      exact c (h0.mpr (Or.inl rfl))
/-- class and model name one liar -/
theorem nz_liar_eq {a : ny_a} (h6 : a 6 ≤ 6) (h0 : (nz_ff a nz_none).1 = 0) : nz_lst a 0 (a 6) = if (nz_cN a 600).2 = 6 then nI 4294967293 else nI (nz_cN a 600).2 := by
  have hn : ∀ k, 100 ≤ k → k < 600 → nz_msk (nz_ws a k) ≠ 0 := by
    intro k k1 k2 e
    have : 0 < (nz_ff a nz_none).1 := nz_ff_i.mpr ⟨k, k1, k2, (nz_fit_n h6).mpr e⟩
    omega
  have hf : ∀ r, r < 6 → (0 < (nz_ff a r).1 ↔ ∃ k, 100 ≤ k ∧ k < 600 ∧ nz_msk (nz_ws a k) = 2 ^ r) := by
    intro r hr
    rw [nz_ff_i]
    constructor
    · rintro ⟨k, k1, k2, k3⟩; exact ⟨k, k1, k2, (nz_fit_r h6 hr (hn k k1 k2)).mp k3⟩
    · rintro ⟨k, k1, k2, k3⟩; exact ⟨k, k1, k2, (nz_fit_r h6 hr (hn k k1 k2)).mpr k3⟩
  obtain ⟨c1, c2⟩ := nz_cN_l (a := a) h6 500
  have c1 : (nz_cN a 600).2 = 6 ∨ ((nz_cN a 600).2 < a 6 ∧ ∃ k, 100 ≤ k ∧ k < 600 ∧ nz_msk (nz_ws a k) = 2 ^ (nz_cN a 600).2) := c1
  have c2 : ∀ k, 100 ≤ k → k < 600 → ∀ r, r < a 6 → nz_msk (nz_ws a k) = 2 ^ r → (nz_cN a 600).2 ≤ r := c2
  generalize (nz_cN a 600).2 = l at *
  rw [nz_lst_i (a := a) (l := l) (a 6) 0 (by omega) (fun q _ hq => ?_) (fun q => by omega)]
  · rcases c1 with c | ⟨c, _⟩
    · subst c; rw [if_neg (by omega), if_pos rfl]
    · rw [if_pos c, if_neg (by omega)]
  · constructor
    · intro h
      obtain ⟨k, k1, k2, k3⟩ := (hf q (by omega)).mp h
      have := c2 k k1 k2 q hq k3
      rcases Nat.lt_or_ge l q with h1 | h1
      · exact Or.inr ⟨h1, h⟩
      · exact Or.inl (by omega)
    · rintro (e | e)
      · subst e
        rcases c1 with c | ⟨-, c⟩
        · omega
        · exact (hf q (by omega)).mpr c
      · exact e.2
