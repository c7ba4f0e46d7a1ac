/-! lone nymphs: what they come to, and the model's -/
def nz_td (a : ny_a) (kind t0 : Nat) : Nat → Nat
  | 0 => t0
  | k + 1 => min 99 (nz_td a kind t0 k + ny_wear kind k (a (50 + k)))
def nz_sn (a : ny_a) (kind grace t0 : Nat) : Nat → Nat
  | 0 => 0
  | k + 1 => nz_sn a kind grace t0 k + (if nz_td a kind t0 k < 60 then ny_shw kind grace 0 (a (50 + k)) else 0)
/-- a report isn't so -/
def nz_wr (a : ny_a) (kind grace t0 r : Nat) : Bool :=
  !(decide (a (100 + 4 * r) ≤ (if a (99 + 4 * r) = 0 then nz_td a kind t0 (a (98 + 4 * r)) else nz_sn a kind grace t0 (a (98 + 4 * r)))) && decide ((if a (99 + 4 * r) = 0 then nz_td a kind t0 (a (98 + 4 * r)) else nz_sn a kind grace t0 (a (98 + 4 * r))) ≤ a (101 + 4 * r)))
def nz_fk (a : ny_a) (b kind grace t0 : Nat) : Nat → Nat → Bool
  | _, 0 => true
  | r, n + 1 => (decide (r = b) || !(nz_wr a kind grace t0 r)) && nz_fk a b kind grace t0 (r + 1) n
def nz_fit (a : ny_a) (b k : Nat) : Bool := nz_fk a b (k / 100) (k / 10 % 10) (k % 10 * 10) 0 (a 6)
def nz_fs1 (a : ny_a) (b k : Nat) (s : Nat × Nat) : Nat × Nat := if nz_fit a b k then (s.1 + 1, if s.1 = 0 then k else s.2) else s
def nz_ff (a : ny_a) (b : Nat) : Nat × Nat := nz_lp (nz_fs1 a b) 100 500 (0, 0)
def nz_none : Nat := 4294967295
def o_nymph (x : Int32) (a : ny_a) : Int32 := match nz_in 0 3 x with
  | some w => if w = 0 then nI (nz_ff a nz_none).1 else if (nz_ff a nz_none).1 = 0 then nI 4294967293 else if w = 1 then nI ((nz_ff a nz_none).2 / 100) else if w = 2 then nI ((nz_ff a nz_none).2 / 10 % 10) else nI ((nz_ff a nz_none).2 % 10 * 10)
  | none => nI 4294967295
def nz_lst (a : ny_a) : Nat → Nat → Int32
  | _, 0 => nI 4294967293
  | r, n + 1 => if 0 < (nz_ff a r).1 then nI r else nz_lst a (r + 1) n
def o_liar (a : ny_a) : Int32 := if (nz_ff a nz_none).1 = 0 then nz_lst a 0 (a 6) else nI 4294967293
theorem nz_td_b {a : ny_a} {kind t0 : Nat} (h : t0 ≤ 99) : ∀ k, nz_td a kind t0 k ≤ 99 := by
  intro k
  cases k with
  | zero => exact h
  | succ k => rw [nz_td]; omega
theorem nz_sn_b {a : ny_a} {kind grace t0 : Nat} (hg : grace ≤ 9) : ∀ k, nz_sn a kind grace t0 k ≤ 11 * k := by
  intro k
  induction k with
  | zero => exact Nat.le_refl _
  | succ k ih =>
    rw [nz_sn]
    have := ny_shw_le (kind := kind) (grace := grace) (number := 0) (w := a (50 + k)) hg (by decide)
    split <;> omega
theorem nz_ff_b {a : ny_a} {b : Nat} : ∀ n k (s : Nat × Nat), (nz_lp (nz_fs1 a b) k n s).1 ≤ s.1 + n ∧ (k + n ≤ 600 → s.2 < 600 → (nz_lp (nz_fs1 a b) k n s).2 < 600) := by
  intro n
  induction n with
  | zero => intro k s; rw [nz_lp]; exact ⟨Nat.le_refl _, fun _ h => h⟩
  | succ n ih =>
    intro k s
    rw [nz_lp]
    obtain ⟨h1, h2⟩ := ih (k + 1) (nz_fs1 a b k s)
    have e1 : (nz_fs1 a b k s).1 ≤ s.1 + 1 := by
      unfold nz_fs1
      split
      · exact Nat.le_refl _
      · omega
    refine ⟨by omega, fun h3 h4 => h2 (by omega) ?_⟩
    unfold nz_fs1
    split
    · dsimp only
      split <;> omega
    · exact h4
theorem nz_lp_ge {a : ny_a} {b : Nat} : ∀ n k (s : Nat × Nat), s.1 ≤ (nz_lp (nz_fs1 a b) k n s).1 := by
  intro n
  induction n with
  | zero => intro k s; exact Nat.le_refl _
  | succ n ih =>
    intro k s
    rw [nz_lp]
    refine Nat.le_trans ?_ (ih (k + 1) (nz_fs1 a b k s))
    unfold nz_fs1
    split
    · exact Nat.le_succ _
    · exact Nat.le_refl _
theorem nz_nb6 : ∀ r, r < 6 → (nI r = nI nz_none ↔ r = nz_none) := fun r hr => ⟨fun q => absurd q (nz_neg rfl (by omega)), fun q => by rw [q]⟩
theorem nz_bb : ∀ b : Bool, (if b then nI 1 else nI 0) &&& nI 1 = (if b then nI 1 else nI 0) ∧ (if b then nI 1 else nI 0) &&& nI 0 = nI 0 := by decide +kernel
section NZRE
variable {d Ln : Nat} {I : ny_I} {Q : Int32 → ny_I → Prop} {Q0 : ny_I → Prop} {a : ny_a}
theorem q_Md_stands {kind grace t0 : Nat} (ha : ny_Md I a) (hV : ny_V a) (hk : kind ≤ 5) (hg : grace ≤ 9) (ht : t0 ≤ 99) (h : ∀ I', (∀ c, c ≠ 110 → c ≠ 111 → I' c = I c) → (∀ k, k < 16 → I' 110 k = nI (nz_td a kind t0 k) ∧ I' 111 k = nI (nz_sn a kind grace t0 k)) → Q0 I') : ny_C0 (d + 2) m_Md_stands [.ref 102, .int (nI kind), .int (nI grace), .int (nI t0)] Ln I Q0 := by
  have key : ∀ n k (I1 : ny_I), k + n = 15 → (∀ c, c ≠ 110 → c ≠ 111 → I1 c = I c) → (∀ j, j ≤ k → I1 110 j = nI (nz_td a kind t0 j) ∧ I1 111 j = nI (nz_sn a kind grace t0 j)) → ny_g (d + 2) m_Md_stands 17 [(0, .ref 102), (1, .int (nI kind)), (2, .int (nI grace)), (4, .int (nI k))] [] Ln I1 (ny_r0 Ln Q0) := by
    intro n
    induction n with
    | zero =>
      intro k I1 hkn hF hj
      refine s_Md_stands_17 ?_
      simp (disch := omega) only [ny_lit, nI_add, ny_mul, nI_clamp, ny_le, ny_lt, ny_eq, ny_div, ny_rem, ny_rem2, ny_inN]
      exact ⟨fun _ => h I1 hF fun j hj2 => hj j (by omega), fun q => absurd q (by omega)⟩
    | succ n ih =>
      intro k I1 hkn hF hj
      have V5 := hV.2.2.2.2.1 k (by omega)
      have hM1 : I1 103 (50 + k) = nI (a (50 + k)) := by rw [hF 103 (by decide) (by decide)]; exact ha _
      have wb := ny_wear_le (kind := kind) (bell := k) (w := a (50 + k)) (by omega) V5
      have tb := nz_td_b (a := a) (kind := kind) ht k
      have sb := nz_sn_b (a := a) (kind := kind) (t0 := t0) hg k
      have shb := ny_shw_le (kind := kind) (grace := grace) (number := 0) (w := a (50 + k)) hg (by decide)
      obtain ⟨j1, j2⟩ := hj k (Nat.le_refl _)
      refine s_Md_stands_17 ?_
      simp (disch := omega) only [ny_lit, nI_add, ny_mul, nI_clamp, ny_le, ny_lt, ny_eq, ny_div, ny_rem, ny_rem2, ny_inN, hM1, true_and]
      refine ⟨fun q => absurd q (by omega), fun _ => q_Md_wearies (d := d) (by omega) (by omega) (by omega) ?_⟩
      rw [j1, nI_add]
      refine q_Md_lst (by omega) (by omega) ?_
      simp (disch := omega) only [ny_lit, nI_add, ny_mul, nI_clamp, ny_le, ny_lt, ny_eq, ny_div, ny_rem, ny_rem2, ny_inN, ny_uprd, if_neg, j1, j2, true_and]
      have e1 : nz_td a kind t0 (k + 1) = min 99 (nz_td a kind t0 k + ny_wear kind k (a (50 + k))) := rfl
      have e2 : nz_sn a kind grace t0 (k + 1) = nz_sn a kind grace t0 k + (if nz_td a kind t0 k < 60 then ny_shw kind grace 0 (a (50 + k)) else 0) := rfl
      refine ⟨fun c => ?_, fun c => ?_⟩
      · refine ih (k + 1) _ (by omega) (fun c x y => by rw [ny_upne _ y, ny_upne _ x]; exact hF c x y) fun j hj2 => ?_
        by_cases e : j = k + 1
        · subst e
          simp (disch := omega) only [ny_uprd, if_neg, if_true, and_self, if_pos]
          rw [e1, e2, if_neg (by omega)]
          exact ⟨rfl, rfl⟩
        · simp (disch := omega) only [ny_uprd, if_neg]
          exact hj j (by omega)
      · rw [hM1]
        refine q_Md_shows (d := d) (kind := kind) (grace := grace) (number := 0) (by omega) (by omega) (by omega) (by omega) ?_
        rw [nI_add]
        refine ih (k + 1) _ (by omega) (fun c x y => by rw [ny_upne _ y, ny_upne _ x]; exact hF c x y) fun j hj2 => ?_
        by_cases e : j = k + 1
        · subst e
          simp (disch := omega) only [ny_uprd, if_neg, if_true, and_self, if_pos]
          rw [e1, e2, if_pos (by omega)]
          exact ⟨rfl, rfl⟩
        · simp (disch := omega) only [ny_uprd, if_neg]
          exact hj j (by omega)
  refine s_Md_stands_0 ⟨rfl, rfl, key 15 0 _ rfl (fun c x y => by rw [ny_upne _ y, ny_upne _ x]) fun j hj => ?_⟩
  rw [show j = 0 by omega]
  exact ⟨by rw [ny_upne _ (by decide), ny_upeq]; rfl, by rw [ny_upeq]; rfl⟩
theorem q_Md_isFit {b kind grace t0 : Nat} (ha : ny_Md I a) (hV : ny_V a) (hg : grace ≤ 9) (ht : t0 ≤ 99) (hb : ∀ r, r < 6 → (nI r = nI b ↔ r = b)) (hT : ∀ k, k < 16 → I 110 k = nI (nz_td a kind t0 k) ∧ I 111 k = nI (nz_sn a kind grace t0 k)) (h : Q (if nz_fk a b kind grace t0 0 (a 6) then nI 1 else nI 0) I) : ny_C1 (d + 1) m_Md_isFit [.ref 102, .int (nI b)] Ln I Q := by
  have V1 := hV.1; have V2 := hV.2.1; have V3 := hV.2.2.1; have V4 := hV.2.2.2.1; have V5 := hV.2.2.2.2.1; obtain ⟨v0, v1, v2, v3, v5, v6, v7⟩ := V1
  have V7 := hV.2.2.2.2.2.2.1
  have key : ∀ n r (acc : Bool), r + n = a 6 → (acc && nz_fk a b kind grace t0 r n) = nz_fk a b kind grace t0 0 (a 6) → ny_g (d + 1) m_Md_isFit 4 [(0, .ref 102), (1, .int (nI b)), (2, .int (if acc then nI 1 else nI 0)), (3, .int (nI r))] [] Ln I (ny_r1 Ln Q) := by
    intro n
    induction n with
    | zero =>
      intro r acc hr e
      refine s_Md_isFit_4 ?_
      simp (disch := omega) only [ny_lit, nI_add, ny_mul, nI_clamp, ny_le, ny_lt, ny_eq, ny_div, ny_rem, ny_rem2, ny_inN, ha _, true_and]
      refine ⟨fun _ => ⟨?_, ?_⟩, fun q => absurd q (by omega)⟩
      · cases acc
        · exact Or.inl rfl
        · exact Or.inr rfl
      · rw [nz_fk, Bool.and_true] at e
        rw [e]; exact h
    | succ n ih =>
      intro r acc hr e
      obtain ⟨w1, w2, w3, w4⟩ := V7 r (by omega)
      have tb := nz_td_b (a := a) (kind := kind) ht (a (98 + 4 * r))
      have sb := nz_sn_b (a := a) (kind := kind) (t0 := t0) hg (a (98 + 4 * r))
      obtain ⟨j1, j2⟩ := hT (a (98 + 4 * r)) (by omega)
      obtain ⟨b1, b2⟩ := nz_bb acc
      rw [nz_fk] at e
      have e1 : 98 + 4 * r + 1 = 99 + 4 * r := by omega
      have e2 : 98 + 4 * r + 2 = 100 + 4 * r := by omega
      have e3 : 98 + 4 * r + 3 = 101 + 4 * r := by omega
      have h62 : ∀ v, v ≤ 999 → v = (if a (99 + 4 * r) = 0 then nz_td a kind t0 (a (98 + 4 * r)) else nz_sn a kind grace t0 (a (98 + 4 * r))) → ny_g (d + 1) m_Md_isFit 62 [(0, .ref 102), (1, .int (nI b)), (2, .int (if acc then nI 1 else nI 0)), (3, .int (nI r)), (4, .int (nI (98 + 4 * r)))] [.int (nI v)] Ln I (ny_r1 Ln Q) := by
        intro v hv ev
        refine s_Md_isFit_62 ?_
        simp (disch := omega) only [ny_lit, nI_add, nI_clamp, ny_inN, hb r (by omega), ha _, true_and, b1, b2, e2, e3]
        refine ⟨fun c => ih (r + 1) acc (by omega) (by simpa [c] using e), fun c => q_Md_in (nI_l (by omega)) (nI_l (by omega)) (by omega) (by omega) (fun m m1 m2 em => ?_) fun c2 => ?_⟩
        · have em2 := (ny_eq (by omega) (by omega)).mp em
          refine ⟨fun q => absurd q (by decide), fun _ => ih (r + 1) acc (by omega) ?_⟩
          have : nz_wr a kind grace t0 r = false := by
            unfold nz_wr
            rw [← ev]
            simp; omega
          simpa [this] using e
        · refine ⟨fun _ => ih (r + 1) false (by omega) ?_, fun q => absurd rfl q⟩
          have : nz_wr a kind grace t0 r = true := by
            unfold nz_wr
            rw [← ev]
            by_cases q : a (100 + 4 * r) ≤ v ∧ v ≤ a (101 + 4 * r)
            · exact absurd rfl (c2 v q.1 q.2)
            · simp; omega
          simpa [this, c] using e
      refine s_Md_isFit_4 ?_
      simp (disch := omega) only [ny_lit, nI_add, ny_mul, nI_clamp, ny_le, ny_lt, ny_eq, ny_div, ny_rem, ny_rem2, ny_inN, ha _, true_and, e1, j1, j2]
      refine ⟨fun q => absurd q (by omega), fun _ => ⟨fun c => h62 _ (by omega) (if_neg c).symm, fun c => h62 _ (by omega) (if_pos c).symm⟩⟩
  exact s_Md_isFit_0 (key (a 6) 0 true (by omega) (by rw [Bool.true_and]))
/-- what the model's search changes -/
def nz_ef (I' I : ny_I) : Prop := (∀ c, c ≠ 102 → c ≠ 110 → c ≠ 111 → I' c = I c) ∧ ∀ j, j ≠ 24 → j ≠ 25 → I' 102 j = I 102 j
theorem q_Md_findsFits {b : Nat} (ha : ny_Md I a) (hV : ny_V a) (hb : ∀ r, r < 6 → (nI r = nI b ↔ r = b)) (h : ∀ I', nz_ef I' I → I' 102 24 = nI (nz_ff a b).1 → (0 < (nz_ff a b).1 → I' 102 25 = nI (nz_ff a b).2) → Q0 I') : ny_C0 (d + 3) m_Md_findsFits [.ref 102, .int (nI b)] Ln I Q0 := by
  have key : ∀ n k (s : Nat × Nat) (I1 : ny_I), k + n = 600 → 100 ≤ k → s.1 + n ≤ 500 → nz_ef I1 I → I1 102 24 = nI s.1 → (0 < s.1 → I1 102 25 = nI s.2) → nz_lp (nz_fs1 a b) k n s = nz_ff a b → ny_g (d + 3) m_Md_findsFits 14 [(0, .ref 102), (1, .int (nI b)), (2, .int (nI k))] [] Ln I1 (ny_r0 Ln Q0) := by
    intro n
    induction n with
    | zero =>
      intro k s I1 hk h100 hs hF e1 e2 e
      rw [nz_lp] at e
      rw [e] at e1 e2
      refine s_Md_findsFits_14 ?_
      simp (disch := omega) only [ny_lit, nI_add, ny_mul, nI_clamp, ny_le, ny_lt, ny_eq, ny_div, ny_rem, ny_rem2, ny_inN]
      exact ⟨fun _ => h I1 hF e1 e2, fun q => absurd q (by omega)⟩
    | succ n ih =>
      intro k s I1 hk h100 hs hF e1 e2 e
      rw [nz_lp] at e
      have d1 := Nat.div_le_self k 10
      have m1 : k / 10 % 10 < 10 := Nat.mod_lt _ (by decide)
      have m2 : k % 10 < 10 := Nat.mod_lt _ (by decide)
      have r1 : nI (k / 10) - nI (k / 10 / 10 * 10) = nI (k / 10 % 10) := ny_rem2 (by omega) (by decide)
      have r2 : nI k - nI (k / 10 * 10) = nI (k % 10) := ny_rem2 (by omega) (by decide)
      refine s_Md_findsFits_14 ?_
      simp (disch := omega) only [ny_lit, nI_add, ny_mul, ny_le, ny_div, r1, r2]
      refine ⟨fun q => absurd q (by omega), fun _ => q_Md_stands (d := d) (a := a) (fun j => by rw [hF.1 103 (by decide) (by decide) (by decide)]; exact ha j) hV (by omega) (by omega) (by omega) fun I2 h2 hT => ?_⟩
      refine q_Md_isFit (d := d + 1) (a := a) (b := b) (fun j => by rw [h2 103 (by decide) (by decide), hF.1 103 (by decide) (by decide) (by decide)]; exact ha j) hV (by omega) (by omega) hb hT ?_
      have c2 : I2 102 = I1 102 := h2 102 (by decide) (by decide)
      have hF2 : nz_ef I2 I := ⟨fun c x y z => by rw [h2 c y z]; exact hF.1 c x y z, fun j x y => by rw [c2]; exact hF.2 j x y⟩
      rw [c2, e1]
      simp (disch := omega) only [ny_uprd, if_neg, if_true, and_self, e1, c2, ny_lit, nI_add, ny_eq]
      by_cases c : nz_fit a b k = true
      · have c' : nz_fk a b (k / 100) (k / 10 % 10) (k % 10 * 10) 0 (a 6) = true := c
        rw [if_pos c']
        have ec : nz_fs1 a b k s = (s.1 + 1, if s.1 = 0 then k else s.2) := if_pos c
        rw [ec] at e
        refine ⟨fun q => absurd q (by decide), fun _ => ⟨fun c3 => ?_, fun c3 => ?_⟩⟩
        · refine ih (k + 1) (s.1 + 1, if s.1 = 0 then k else s.2) _ (by omega) (by omega) ?_ ⟨fun c x y z => ?_, fun j x y => ?_⟩ ?_ (fun _ => ?_) e
          · dsimp only; omega
          · rw [ny_upne _ x, ny_upne _ x]; exact hF2.1 c x y z
          · simp (disch := omega) only [ny_uprd, if_neg]; exact hF2.2 j x y
          · simp (disch := omega) only [ny_uprd, if_true, and_self]
          · simp (disch := omega) only [ny_uprd, if_neg, if_true, and_self]
            exact e2 (by omega)
        · refine ih (k + 1) (s.1 + 1, if s.1 = 0 then k else s.2) _ (by omega) (by omega) (by dsimp only; omega) ⟨fun c x y z => ?_, fun j x y => ?_⟩ ?_ (fun _ => ?_) e
          · rw [ny_upne _ x, ny_upne _ x]; exact hF2.1 c x y z
          · simp (disch := omega) only [ny_uprd, if_neg]; exact hF2.2 j x y
          · simp (disch := omega) only [ny_uprd, if_true, and_self]
          · simp (disch := omega) only [ny_uprd, if_neg, if_true, and_self]
            rw [if_pos c3]
      · have c' : ¬ nz_fk a b (k / 100) (k / 10 % 10) (k % 10 * 10) 0 (a 6) = true := c
        rw [if_neg c']
        have ec : nz_fs1 a b k s = s := if_neg c
        rw [ec] at e
        exact ⟨fun _ => ih (k + 1) s I2 (by omega) (by omega) (by omega) hF2 (by rw [c2]; exact e1) (by rw [c2]; exact e2) e, fun q => absurd rfl q⟩
  refine s_Md_findsFits_0 (key 500 100 (0, 0) _ rfl (by decide) (by decide) ⟨fun c x _ _ => by rw [ny_upne _ x, ny_upne _ x], fun j x y => ?_⟩ ?_ (fun q => absurd q (by decide)) rfl)
  · simp (disch := omega) only [ny_uprd, if_neg]
  · simp (disch := omega) only [ny_uprd, if_neg, if_true, and_self]; rfl
end NZRE
