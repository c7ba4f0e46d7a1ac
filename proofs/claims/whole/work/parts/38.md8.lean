/-! rings: sets of figures, all that is close to one of them -/
abbrev nz_st : Type := Nat → Bool
def nz_T1 (R : Nat → nz_st) (s : nz_st) (i : Nat) : nz_st := fun q => s q || (s i && R i q)
def nz_Tp (R : Nat → nz_st) (s : nz_st) : Nat → Nat → nz_st
  | _, 0 => s
  | o, n + 1 => nz_Tp R (nz_T1 R s o) (o + 1) n
def nz_Tr (R : Nat → nz_st) (n : Nat) (s : nz_st) : Nat → nz_st
  | 0 => s
  | r + 1 => nz_Tr R n (nz_Tp R s 0 n) r
def nz_Sp (R : Nat → nz_st) (s t : nz_st) : Nat → Nat → nz_st
  | _, 0 => t
  | o, n + 1 => nz_Sp R s (fun q => t q || (s o && R o q)) (o + 1) n
def nz_Sr (R : Nat → nz_st) (n : Nat) (s : nz_st) : Nat → nz_st
  | 0 => s
  | r + 1 => nz_Sr R n (nz_Sp R s s 0 n) r
def nz_le (s t : nz_st) : Prop := ∀ q, s q = true → t q = true
def nz_cd (R : Nat → nz_st) (n : Nat) (s : nz_st) : Prop := ∀ i, i < n → s i = true → ∀ q, R i q = true → s q = true
section NZST
variable {R : Nat → nz_st}
theorem nz_le_a {s t : nz_st} (h1 : nz_le s t) (h2 : nz_le t s) : s = t := by
  funext q
  have a1 := h1 q
  have a2 := h2 q
  cases h : s q <;> cases h' : t q <;> simp_all
theorem nz_T1_le (s : nz_st) (i : Nat) : nz_le s (nz_T1 R s i) := fun q h => by simp [nz_T1, h]
theorem nz_Tp_le : ∀ n o (s : nz_st), nz_le s (nz_Tp R s o n) := by
  intro n
  induction n with
  | zero => intro o s q h; exact h
  | succ n ih => intro o s q h; exact ih (o + 1) _ q (nz_T1_le s o q h)
theorem nz_Tp_in : ∀ n o (s : nz_st) i, o ≤ i → i < o + n → s i = true → ∀ q, R i q = true → nz_Tp R s o n q = true := by
  intro n
  induction n with
  | zero => intro o s i h1 h2; omega
  | succ n ih =>
    intro o s i h1 h2 hs q hq
    rw [nz_Tp]
    by_cases e : i = o
    · subst e
      exact nz_Tp_le n (i + 1) _ q (by simp [nz_T1, hs, hq])
    · exact ih (o + 1) _ i (by omega) (by omega) (nz_T1_le s o i hs) q hq
theorem nz_Tp_cd {N : Nat} {c : nz_st} (hc : nz_cd R N c) : ∀ n o (s : nz_st), o + n ≤ N → nz_le s c → nz_le (nz_Tp R s o n) c := by
  intro n
  induction n with
  | zero => intro o s _ h; exact h
  | succ n ih =>
    intro o s hN h
    refine ih (o + 1) _ (by omega) fun q hq => ?_
    simp only [nz_T1, Bool.or_eq_true, Bool.and_eq_true] at hq
    rcases hq with hq | ⟨h1, h2⟩
    · exact h q hq
    · exact hc o (by omega) (h o h1) q h2
theorem nz_Sp_le (s : nz_st) : ∀ n o (t : nz_st), nz_le t (nz_Sp R s t o n) := by
  intro n
  induction n with
  | zero => intro o t q h; exact h
  | succ n ih => intro o t q h; exact ih (o + 1) _ q (by simp [h])
theorem nz_Sp_in (s : nz_st) : ∀ n o (t : nz_st) i, o ≤ i → i < o + n → s i = true → ∀ q, R i q = true → nz_Sp R s t o n q = true := by
  intro n
  induction n with
  | zero => intro o t i h1 h2; omega
  | succ n ih =>
    intro o t i h1 h2 hs q hq
    rw [nz_Sp]
    by_cases e : i = o
    · subst e
      exact nz_Sp_le s n (i + 1) _ q (by simp [hs, hq])
    · exact ih (o + 1) _ i (by omega) (by omega) hs q hq
theorem nz_Sp_of (s : nz_st) : ∀ n o (t : nz_st) q, nz_Sp R s t o n q = true → t q = true ∨ ∃ i, o ≤ i ∧ i < o + n ∧ s i = true ∧ R i q = true := by
  intro n
  induction n with
  | zero => intro o t q h; exact Or.inl h
  | succ n ih =>
    intro o t q h
    rcases ih (o + 1) _ q h with h | ⟨i, h1, h2, h3⟩
    · simp only [Bool.or_eq_true, Bool.and_eq_true] at h
      rcases h with h | ⟨h1, h2⟩
      · exact Or.inl h
      · exact Or.inr ⟨o, by omega, by omega, h1, h2⟩
    · exact Or.inr ⟨i, by omega, by omega, h3⟩
/-- how many -/
def nz_pc (s : nz_st) : Nat → Nat
  | 0 => 0
  | n + 1 => (if s n then 1 else 0) + nz_pc s n
theorem nz_pc_le (s : nz_st) : ∀ n, nz_pc s n ≤ n := by
  intro n
  induction n with
  | zero => exact Nat.le_refl _
  | succ n ih => rw [nz_pc]; split <;> omega
theorem nz_pc_lt {s : nz_st} {q : Nat} (h : s q = false) : ∀ n, q < n → nz_pc s n < n := by
  intro n
  induction n with
  | zero => intro h; omega
  | succ n ih =>
    intro hq
    rw [nz_pc]
    have := nz_pc_le s n
    by_cases e : q = n
    · subst e; rw [h]; simp; omega
    · have := ih (by omega)
      split <;> omega
theorem nz_pc_mono {s t : nz_st} (h : nz_le s t) : ∀ n, nz_pc s n ≤ nz_pc t n := by
  intro n
  induction n with
  | zero => exact Nat.le_refl _
  | succ n ih =>
    rw [nz_pc, nz_pc]
    have := h n
    by_cases e : s n = true
    · rw [if_pos e, if_pos (this e)]; omega
    · rw [if_neg e]; omega
theorem nz_pc_st {s t : nz_st} (h : nz_le s t) {q : Nat} (h1 : t q = true) (h2 : s q = false) : ∀ n, q < n → nz_pc s n < nz_pc t n := by
  intro n
  induction n with
  | zero => intro h; omega
  | succ n ih =>
    intro hq
    rw [nz_pc, nz_pc]
    by_cases e : q = n
    · subst e
      have := nz_pc_mono h q
      rw [h1, h2]; simp; omega
    · have := ih (by omega)
      have := h n
      by_cases e : s n = true
      · rw [if_pos e, if_pos (this e)]; omega
      · rw [if_neg e]; omega
theorem nz_Sr_id {n : Nat} {s : nz_st} (hc : nz_cd R n s) : ∀ r, nz_Sr R n s r = s := by
  have e : nz_Sp R s s 0 n = s := by
    refine nz_le_a (fun q hq => ?_) (nz_Sp_le s n 0 s)
    rcases nz_Sp_of s n 0 s q hq with h | ⟨i, h1, h2, h3, h4⟩
    · exact h
    · exact hc i (by omega) h3 q h4
  intro r
  induction r with
  | zero => rfl
  | succ r ih => rw [nz_Sr, e]; exact ih
theorem nz_Sr_cd {n : Nat} (hR : ∀ i q, R i q = true → q < n) : ∀ r (s : nz_st), (∀ q, s q = true → q < n) → n ≤ nz_pc s n + r → nz_cd R n (nz_Sr R n s r) ∧ nz_le s (nz_Sr R n s r) := by
  intro r
  induction r with
  | zero =>
    intro s hs hp
    refine ⟨fun i hi h q hq => ?_, fun q h => h⟩
    rw [nz_Sr]
    by_cases e : s q = true
    · exact e
    · have := nz_pc_lt (s := s) (q := q) (by simpa using e) n (hR i q hq)
      omega
  | succ r ih =>
    intro s hs hp
    by_cases e : nz_le (nz_Sp R s s 0 n) s
    · have hc : nz_cd R n s := fun i hi h q hq => e q (nz_Sp_in s n 0 s i (by omega) (by omega) h q hq)
      rw [nz_Sr_id hc]
      exact ⟨hc, fun q h => h⟩
    · obtain ⟨q, h1, h2⟩ : ∃ q, nz_Sp R s s 0 n q = true ∧ s q = false := by
        apply Classical.byContradiction
        intro hn
        refine e fun q hq => ?_
        by_cases e2 : s q = true
        · exact e2
        · exact absurd ⟨q, hq, by simpa using e2⟩ hn
      have hs2 : ∀ q, nz_Sp R s s 0 n q = true → q < n := by
        intro q hq
        rcases nz_Sp_of s n 0 s q hq with h | ⟨i, _, _, _, h4⟩
        · exact hs q h
        · exact hR i q h4
      have := nz_pc_st (nz_Sp_le s n 0 s) h1 h2 n (hs2 q h1)
      have := ih _ hs2 (by omega)
      exact ⟨this.1, fun q h => this.2 q (nz_Sp_le s n 0 s q h)⟩
theorem nz_Tr_cd {n : Nat} {c : nz_st} (hc : nz_cd R n c) : ∀ r (s : nz_st), nz_le s c → nz_le (nz_Tr R n s r) c := by
  intro r
  induction r with
  | zero => intro s h; exact h
  | succ r ih => intro s h; exact ih _ (nz_Tp_cd hc n 0 s (by omega) h)
theorem nz_Tr_le {n : Nat} : ∀ r (s : nz_st), nz_le s (nz_Tr R n s r) := by
  intro r
  induction r with
  | zero => intro s q h; exact h
  | succ r ih => intro s q h; exact ih _ q (nz_Tp_le n 0 s q h)
theorem nz_ST {n : Nat} : ∀ r r' (s t : nz_st), nz_le s t → r ≤ r' → nz_le (nz_Sr R n s r) (nz_Tr R n t r') := by
  intro r
  induction r with
  | zero => intro r' s t h _ q hq; exact nz_Tr_le r' t q (h q hq)
  | succ r ih =>
    intro r' s t h hr
    obtain ⟨r', rfl⟩ : ∃ m, r' = m + 1 := ⟨r' - 1, by omega⟩
    refine ih r' _ _ (fun q hq => ?_) (by omega)
    rcases nz_Sp_of s n 0 s q hq with h1 | ⟨i, h1, h2, h3, h4⟩
    · exact nz_Tp_le n 0 t q (h q h1)
    · exact nz_Tp_in n 0 t i (by omega) (by omega) (h i h3) q h4
theorem nz_ring_eq {n : Nat} (hR : ∀ i q, R i q = true → q < n) {k r r' : Nat} (hk : k < n) (hr : n ≤ r + 1) (h' : r ≤ r') : nz_Tr R n (fun q => decide (q = k)) r' = nz_Sr R n (fun q => decide (q = k)) r ∧ nz_cd R n (nz_Sr R n (fun q => decide (q = k)) r) := by
  have hp : 1 ≤ nz_pc (fun q => decide (q = k)) n := by
    have : nz_pc (fun _ => false) n < nz_pc (fun q => decide (q = k)) n := nz_pc_st (s := fun _ => false) (fun q h => by simp at h) (q := k) (by simp) rfl n hk
    omega
  have := nz_Sr_cd hR r (fun q => decide (q = k)) (fun q h => by simp at h; omega) (by omega)
  exact ⟨nz_le_a (nz_Tr_cd this.1 r' _ this.2) (nz_ST r r' _ _ (fun q h => h) h'), this.1⟩
end NZST
/-! bits of a set -/
theorem nz_bit : ∀ m, m < 64 → ∀ k, k < 6 → (nI m &&& ((1 : Int32) <<< (nI k &&& 31)) = 0 ↔ m.testBit k = false) := by decide +kernel
theorem nz_bon : ∀ m, m < 64 → ∀ k, k < 6 → nI m ||| ((1 : Int32) <<< (nI k &&& 31)) = nI (m ||| 2 ^ k) := by decide +kernel
theorem nz_boff : ∀ m, m < 64 → ∀ k, k < 6 → nI m &&& (((1 : Int32) <<< (nI k &&& 31)) ^^^ (-1)) = nI (m &&& (63 - 2 ^ k)) := by decide +kernel
theorem nz_bon_t : ∀ m, m < 64 → ∀ k, k < 6 → (m ||| 2 ^ k) < 64 ∧ ∀ q, q < 6 → (m ||| 2 ^ k).testBit q = (m.testBit q || decide (q = k)) := by decide +kernel
theorem nz_boff_t : ∀ m, m < 64 → ∀ k, k < 6 → (m &&& (63 - 2 ^ k)) < 64 ∧ ∀ q, q < 6 → (m &&& (63 - 2 ^ k)).testBit q = (m.testBit q && !(decide (q = k))) := by decide +kernel
/-- a mask holds a set -/
def nz_mk (m : Nat) (s : nz_st) : Prop := m < 64 ∧ ∀ q, q < 6 → m.testBit q = s q
theorem nz_mk_u : ∀ m, m < 64 → ∀ m', m' < 64 → (∀ q, q < 6 → m.testBit q = m'.testBit q) → m = m' := by decide +kernel
theorem nz_mk_e {m m' : Nat} {s : nz_st} (h : nz_mk m s) (h' : nz_mk m' s) : m = m' := nz_mk_u m h.1 m' h'.1 fun q hq => by rw [h.2 q hq, h'.2 q hq]
theorem nz_bsh : ∀ m, m < 64 → ∀ k, k < 6 → ((nI m >>> (nI k &&& 31)) &&& 1 = nI 1 ↔ m.testBit k = true) := by decide +kernel
theorem nz_or0 : ∀ m, m < 64 → nI m ||| nI 0 = nI m := by decide +kernel
theorem nz_one : ∀ k, k < 6 → (1 : Int32) <<< (nI k &&& 31) = nI (2 ^ k) := by decide +kernel
theorem nz_2k : ∀ k, k < 6 → 2 ^ k < 64 ∧ ∀ q, q < 6 → (2 ^ k).testBit q = decide (q = k) := by decide +kernel
theorem nz_msk_lt (s : nz_st) : ∃ m, nz_mk m s := by
  have : ∀ b0 b1 b2 b3 b4 b5 : Bool, ∃ m, m < 64 ∧ m.testBit 0 = b0 ∧ m.testBit 1 = b1 ∧ m.testBit 2 = b2 ∧ m.testBit 3 = b3 ∧ m.testBit 4 = b4 ∧ m.testBit 5 = b5 := by
    intro b0 b1 b2 b3 b4 b5
    refine ⟨b0.toNat + 2 * b1.toNat + 4 * b2.toNat + 8 * b3.toNat + 16 * b4.toNat + 32 * b5.toNat, ?_⟩
    revert b0 b1 b2 b3 b4 b5
    decide
  obtain ⟨m, h, h0, h1, h2, h3, h4, h5⟩ := this (s 0) (s 1) (s 2) (s 3) (s 4) (s 5)
  refine ⟨m, h, fun q hq => ?_⟩
  have : q = 0 ∨ q = 1 ∨ q = 2 ∨ q = 3 ∨ q = 4 ∨ q = 5 := by omega
  rcases this with rfl | rfl | rfl | rfl | rfl | rfl <;> assumption
/-- close niches -/
def nz_nr (x y : Nat) : Bool := decide ((x + 6 - y) % 6 < 2) || decide ((x + 6 - y) % 6 = 5)
def nz_R (a : ny_a) (i : Nat) : nz_st := fun q => decide (q < a 0) && (ny_upb a i && (ny_upb a q && nz_nr (a (11 + 5 * i)) (a (11 + 5 * q))))
def nz_rg (a : ny_a) (k : Nat) : nz_st := nz_Tr (nz_R a) (a 0) (fun q => decide (q = k) && ny_upb a k) 6
theorem nz_nr1 : ∀ x, x < 6 → ∀ y, y < 6 → ((((nI x - nI y) + (6 : Int32)) - ((nI x - nI y) + (6 : Int32)) / (6 : Int32) * (6 : Int32)) < (2 : Int32) ↔ (x + 6 - y) % 6 < 2) := by decide +kernel
theorem nz_nr2 : ∀ x, x < 6 → ∀ y, y < 6 → ((((nI x - nI y) + (6 : Int32)) - ((nI x - nI y) + (6 : Int32)) / (6 : Int32) * (6 : Int32)) = (5 : Int32) ↔ (x + 6 - y) % 6 = 5) := by decide +kernel
section NZRG
variable {d Ln : Nat} {I : ny_I} {Q : Int32 → ny_I → Prop} {Q0 : ny_I → Prop} {a : ny_a}
theorem q_Md_areClose {i j : Nat} (ha : ny_Md I a) (hV : ny_V a) (hi : i < 6) (hj : j < 6) (h : Q (if (ny_upb a i && (ny_upb a j && nz_nr (a (11 + 5 * i)) (a (11 + 5 * j)))) = true then nI 1 else nI 0) I) : ny_C1 (d + 2) m_Md_areClose [.ref 102, .int (nI i), .int (nI j)] Ln I Q := by
  have U := hV.2.1 i hi
  have U2 := hV.2.1 j hj
  refine s_Md_areClose_0 (q_Md_t3 ha hi (q_Md_t3 ha hj (q_Md_isUp ha hV hi ?_)))
  rw [nz_nr1 _ (by omega) _ (by omega), nz_nr2 _ (by omega) _ (by omega)]
  by_cases c1 : ny_upb a i = true
  · rw [if_pos c1]
    rw [c1, Bool.true_and] at h
    refine ⟨fun q => absurd q (by decide), fun _ => q_Md_isUp ha hV hj ?_⟩
    by_cases c2 : ny_upb a j = true
    · rw [if_pos c2]
      rw [c2, Bool.true_and] at h
      refine ⟨fun q => absurd q (by decide), fun _ => ⟨fun c3 => ?_, fun c3 => ⟨fun c4 => ?_, fun c4 => ?_⟩⟩⟩
      · rw [if_pos (by simp [nz_nr, c3])] at h; exact h
      · rw [if_neg (by simp [nz_nr, c4]; omega)] at h; exact h
      · rw [if_pos (by simp [nz_nr, c4])] at h; exact h
    · rw [if_neg c2]
      rw [if_neg (by simp [c2])] at h
      exact ⟨fun _ => h, fun q => absurd rfl q⟩
  · rw [if_neg c1]
    rw [if_neg (by simp [c1])] at h
    exact ⟨fun _ => h, fun q => absurd rfl q⟩
theorem q_Md_ringOf {k : Nat} (ha : ny_Md I a) (hV : ny_V a) (hk : k < 6) (h : ∀ m, nz_mk m (nz_rg a k) → Q (nI m) I) : ny_C1 (d + 3) m_Md_ringOf [.ref 102, .int (nI k)] Ln I Q := by
  have V1 := hV.1; have V2 := hV.2.1; have V3 := hV.2.2.1; have V4 := hV.2.2.2.1; have V5 := hV.2.2.2.2.1; obtain ⟨v0, v1, v2, v3, v5, v6, v7⟩ := V1
  have k41 : ∀ (s : nz_st) (i r : Nat), i < a 0 → (∀ m', nz_mk m' (nz_T1 (nz_R a) s i) → ny_g (d + 3) m_Md_ringOf 27 [(0, .ref 102), (2, .int (nI m')), (3, .int (nI r)), (4, .int (nI (i + 1)))] [] Ln I (ny_r1 Ln Q)) → ∀ n j m, j + n = a 0 → nz_mk m (fun q => s q || (s i && (decide (q < j) && nz_R a i q))) → ny_g (d + 3) m_Md_ringOf 41 [(0, .ref 102), (2, .int (nI m)), (3, .int (nI r)), (4, .int (nI i)), (5, .int (nI j))] [] Ln I (ny_r1 Ln Q) := by
    intro s i r hi hN n
    induction n with
    | zero =>
      intro j m hj hm
      refine s_Md_ringOf_41 ?_
      simp (disch := omega) only [ny_lit, nI_add, ny_mul, nI_clamp, ny_le, ny_lt, ny_eq, ny_div, ny_rem, ny_rem2, ny_inN, ha _, true_and]
      refine ⟨fun _ => hN m ?_, fun q => absurd q (by omega)⟩
      refine ⟨hm.1, fun q hq => ?_⟩
      rw [hm.2 q hq]
      show (s q || (s i && (decide (q < j) && nz_R a i q))) = (s q || (s i && nz_R a i q))
      by_cases c : q < j
      · simp [c]
      · have : nz_R a i q = false := by unfold nz_R; rw [decide_eq_false (by omega)]; rfl
        rw [this]; simp
    | succ n ih =>
      intro j m hj hm
      have hi6 : i < 6 := by omega
      have hj6 : j < 6 := by omega
      have hb : m.testBit i = s i := by
        rw [hm.2 i hi6]
        have : ∀ x y : Bool, (x || (x && y)) = x := by decide
        exact this _ _
      -- the next place, without and with a bit
      have nxt : ∀ m', m' < 64 → (∀ q, q < 6 → m'.testBit q = (m.testBit q || (s i && (decide (q = j) && nz_R a i q)))) → ny_g (d + 3) m_Md_ringOf 41 [(0, .ref 102), (2, .int (nI m')), (3, .int (nI r)), (4, .int (nI i)), (5, .int (nI (j + 1)))] [] Ln I (ny_r1 Ln Q) := by
        intro m' hm' e
        refine ih (j + 1) m' (by omega) ⟨hm', fun q hq => ?_⟩
        rw [e q hq, hm.2 q hq]
        show ((s q || (s i && (decide (q < j) && nz_R a i q))) || (s i && (decide (q = j) && nz_R a i q))) = (s q || (s i && (decide (q < j + 1) && nz_R a i q)))
        by_cases c : q = j
        · subst c
          simp
        · have : decide (q < j + 1) = decide (q < j) := by rw [decide_eq_decide]; omega
          rw [this]; simp [c]
      have hn0 : nz_R a i j = (ny_upb a i && (ny_upb a j && nz_nr (a (11 + 5 * i)) (a (11 + 5 * j)))) := by unfold nz_R; rw [decide_eq_true (by omega)]; rfl
      refine s_Md_ringOf_41 ?_
      simp (disch := omega) only [ny_lit, nI_add, ny_mul, nI_clamp, ny_le, ny_lt, ny_eq, ny_div, ny_rem, ny_rem2, ny_inN, ha _, true_and]
      have b1 : (nI m >>> (nI i &&& nI 31) &&& nI 1 = nI 1 ↔ m.testBit i = true) := nz_bsh m hm.1 i hi6
      have b2 : nI m ||| nI 1 <<< (nI j &&& nI 31) = nI (m ||| 2 ^ j) := nz_bon m hm.1 j hj6
      rw [b1, hb, nz_or0 m hm.1, b2]
      refine ⟨fun q => absurd q (by omega), fun _ => ⟨fun c => ?_, fun c => q_Md_areClose ha hV hi6 hj6 ?_⟩⟩
      · exact nxt m hm.1 fun q hq => by simp [c]
      · by_cases c2 : nz_R a i j = true
        · rw [hn0] at c2
          rw [if_pos c2]
          refine ⟨fun q => absurd q (by decide), fun _ => ?_⟩
          obtain ⟨t1, t2⟩ := nz_bon_t m hm.1 j hj6
          refine nxt _ t1 fun q hq => ?_
          rw [t2 q hq, c]
          by_cases e : q = j
          · subst e; rw [hn0, c2]; simp
          · simp [e]
        · rw [hn0] at c2
          rw [if_neg c2]
          refine ⟨fun _ => nxt m hm.1 fun q hq => ?_, fun q => absurd rfl q⟩
          by_cases e : q = j
          · subst e; rw [hn0]; simp only [Bool.not_eq_true] at c2; rw [c2]; simp
          · simp [e]
  have k27 : ∀ (r : Nat), ∀ n i m (s : nz_st), i + n = a 0 → nz_mk m s → (∀ m', nz_mk m' (nz_Tp (nz_R a) s i n) → ny_g (d + 3) m_Md_ringOf 18 [(0, .ref 102), (2, .int (nI m')), (3, .int (nI (r + 1)))] [] Ln I (ny_r1 Ln Q)) → ny_g (d + 3) m_Md_ringOf 27 [(0, .ref 102), (2, .int (nI m)), (3, .int (nI r)), (4, .int (nI i))] [] Ln I (ny_r1 Ln Q) := by
    intro r n
    induction n with
    | zero =>
      intro i m s hi hm hN
      refine s_Md_ringOf_27 ?_
      simp (disch := omega) only [ny_lit, nI_add, ny_mul, nI_clamp, ny_le, ny_lt, ny_eq, ny_div, ny_rem, ny_rem2, ny_inN, ha _, true_and]
      exact ⟨fun _ => hN m hm, fun q => absurd q (by omega)⟩
    | succ n ih =>
      intro i m s hi hm hN
      refine s_Md_ringOf_27 ?_
      simp (disch := omega) only [ny_lit, nI_add, ny_mul, nI_clamp, ny_le, ny_lt, ny_eq, ny_div, ny_rem, ny_rem2, ny_inN, ha _, true_and]
      refine ⟨fun q => absurd q (by omega), fun _ => k41 s i r (by omega) (fun m' hm' => ih (i + 1) m' _ (by omega) hm' hN) (a 0) 0 m (by omega) ⟨hm.1, fun q hq => ?_⟩⟩
      rw [hm.2 q hq]; simp
  have k18 : ∀ n r m (s : nz_st), r + n = 6 → nz_mk m s → (∀ m', nz_mk m' (nz_Tr (nz_R a) (a 0) s n) → Q (nI m') I) → ny_g (d + 3) m_Md_ringOf 18 [(0, .ref 102), (2, .int (nI m)), (3, .int (nI r))] [] Ln I (ny_r1 Ln Q) := by
    intro n
    induction n with
    | zero =>
      intro r m s hr hm hN
      refine s_Md_ringOf_18 ?_
      simp (disch := omega) only [ny_lit, nI_add, ny_mul, nI_clamp, ny_le, ny_lt, ny_eq, ny_div, ny_rem, ny_rem2, ny_inN, ha _, true_and]
      exact ⟨fun _ => hN m hm, fun q => absurd q (by omega)⟩
    | succ n ih =>
      intro r m s hr hm hN
      refine s_Md_ringOf_18 ?_
      simp (disch := omega) only [ny_lit, nI_add, ny_mul, nI_clamp, ny_le, ny_lt, ny_eq, ny_div, ny_rem, ny_rem2, ny_inN, ha _, true_and]
      exact ⟨fun q => absurd q (by omega), fun _ => k27 r (a 0) 0 m s (by omega) hm fun m' hm' => ih (r + 1) m' _ (by omega) hm' hN⟩
  refine s_Md_ringOf_0 (q_Md_isUp (d := d + 1) ha hV hk ?_)
  rw [nz_one k hk]
  obtain ⟨p1, p2⟩ := nz_2k k hk
  by_cases c : ny_upb a k = true
  · rw [if_pos c]
    refine ⟨fun q => absurd q (by decide), fun _ => k18 6 0 (2 ^ k) _ rfl ⟨p1, fun q hq => ?_⟩ h⟩
    rw [p2 q hq, c]; simp
  · rw [if_neg c]
    refine ⟨fun _ => k18 6 0 0 _ rfl ⟨by decide, fun q hq => ?_⟩ h, fun q => absurd rfl q⟩
    simp only [Bool.not_eq_true] at c
    rw [c]; simp
end NZRG
