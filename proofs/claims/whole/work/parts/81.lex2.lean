/-! the class: the row of tokens -/
def nt_pl (T : Nat) (b : Nat → Nat) : Nat → Nat
  | 0 => nt_sk T b 0
  | k + 1 => nt_nx T b (nt_pl T b k)
def nt_val (T : Nat) (b : Nat → Nat) (p : Nat) : Nat := nt_num b (nt_en T b p - p) p 0
def nt_tok (I : ny_I) (T : Nat) (b : Nat → Nat) (k : Nat) : Prop := ∀ j, j < k → I 56 j = nI (nt_ty T b (nt_pl T b j)) ∧ I 58 j = nI (nt_pl T b j) ∧ (nt_ty T b (nt_pl T b j) = 18 → I 57 j = nI (nt_val T b (nt_pl T b j)))
theorem nt_pl_st {T : Nat} {b : Nat → Nat} : ∀ k, nt_st T b (nt_pl T b k) := by
  intro k
  induction k with
  | zero =>
    refine nt_st_sk (by omega) ?_
    unfold nt_go
    rw [decide_eq_false (by omega)]; rfl
  | succ k ih => exact nt_st_nx ih
theorem nt_num_lt {b : Nat → Nat} : ∀ (n p v : Nat), (∀ j, p ≤ j → j < p + n → b j ≤ 57) → (v + 1) * 10 ^ n ≤ 10000 → nt_num b n p v < 10000 := by
  intro n
  induction n with
  | zero => intro p v _ h; rw [nt_num]; omega
  | succ n ih =>
    intro p v hb h
    rw [nt_num]
    refine ih _ _ (fun j x y => hb j (by omega) (by omega)) ?_
    have := hb p (by omega) (by omega)
    rw [Nat.pow_succ, Nat.mul_comm (10 ^ n) 10, ← Nat.mul_assoc] at h
    exact Nat.le_trans (Nat.mul_le_mul_right _ (by omega)) h
theorem nt_p10 : ∀ n, n < 5 → 10 ^ n ≤ 10000 := by decide +kernel
/-- a number's token -/
theorem nt_ty_n {T : Nat} {b : Nat → Nat} {p : Nat} (h : nt_ty T b p = 18) : p < T ∧ nt_la b p = false ∧ nt_di b p = true ∧ nt_en T b p - p ≤ 4 ∧ nt_val T b p < 10000 ∧ ∀ j, p ≤ j → j < nt_en T b p → 48 ≤ b j ∧ b j ≤ 57 := by
  have hT : p < T := by
    refine Classical.byContradiction fun q => ?_
    unfold nt_ty at h
    rw [if_neg q] at h; exact absurd h (by decide)
  have hl : ¬ nt_la b p = true := by
    intro q
    unfold nt_ty at h
    rw [if_pos hT, if_pos q] at h
    rcases nt_ix_m (nt_wd T b p) with x | x
    · omega
    · have := (nt_ix_w _ x).1; omega
  have hd : nt_di b p = true := by
    refine Classical.byContradiction fun q => ?_
    unfold nt_ty at h
    rw [if_pos hT, if_neg hl, if_neg q] at h
    unfold nt_sg at h
    split at h <;> omega
  have h4 : nt_en T b p - p ≤ 4 := by
    refine Classical.byContradiction fun q => ?_
    unfold nt_ty at h
    rw [if_pos hT, if_neg hl, if_pos hd, if_neg q] at h
    exact absurd h (by decide)
  have hj : ∀ j, p ≤ j → j < nt_en T b p → 48 ≤ b j ∧ b j ≤ 57 := by
    intro j x y
    rw [nt_en_d hT hd] at y
    have := ((nt_rn_p (P := nt_di b) (T := T) p).2.2.1 j x y).1
    unfold nt_di at this
    rw [decide_eq_true_eq] at this
    exact this
  have hp := nt_en_p (T := T) (b := b) (p := p)
  refine ⟨hT, Bool.eq_false_iff.mpr hl, hd, h4, ?_, hj⟩
  exact nt_num_lt _ _ _ (fun j x y => (hj j x (by omega)).2) (by rw [Nat.zero_add, Nat.one_mul]; exact nt_p10 _ (by omega))
theorem nt_ixf_le : ∀ (ws : List (List Nat)) (k : Nat) (l : List Nat), k + ws.length ≤ 20 → nt_ixf ws k l ≤ 20 := by
  intro ws
  induction ws with
  | nil => intro k l _; exact Nat.le_refl _
  | cons w ws ih =>
    intro k l h
    rw [List.length_cons] at h
    rw [nt_ixf]
    split
    · omega
    · exact ih _ _ (by omega)
theorem nt_ty_lt (T : Nat) (b : Nat → Nat) (p : Nat) : nt_ty T b p < 63 := by
  unfold nt_ty
  have := nt_ixf_le nt_wds 0 (nt_wd T b p) (by decide)
  unfold nt_ix nt_sg
  split
  · split
    · omega
    · split
      · split <;> omega
      · split <;> omega
  · omega
theorem nt_wa_c {b : Nat → Nat} {p e c w : Nat} {cs : List Nat} {s : Option Nat} : nt_wa b p e (c :: cs) w s = if c = 32 then (if s = some e then w else nt_wa b p e cs (w + 1) (some p)) else nt_wa b p e cs w (match s with | some q => if q < e ∧ b q = c then some (q + 1) else none | none => none) := rfl
section NZLY
variable {d Ln : Nat} {I : ny_I} {Q : Int32 → ny_I → Prop} {Q0 : ny_I → Prop} {T : Nat} {b : Nat → Nat}
def nt_o (s : Option Nat) : Int32 := match s with | some q => nI q | none => -1
theorem q_Ta_wordAt {p e : Nat} (hT : nt_T I) (hC : nt_C I T b) (hV : nt_V T b) (hp : p ≤ e) (he : e ≤ T) (h : Q (nI (nt_ix (nt_by2 p e b))) I) : ny_C1 (d + 5) m_Ta_wordAt [.ref 54, .int (nI p), .int (nI e)] Ln I Q := by
  have v := hV.1
  have hw : nt_wa b p e nt_tx 0 (some p) = nt_ix (nt_by2 p e b) := nt_wa_f hp nt_wds 0 (by decide +kernel)
  rw [← hw] at h
  refine s_Ta_wordAt_0 ?_
  have key : ∀ (cs : List Nat) (i w : Nat) (s : Option Nat), nt_tx.drop i = cs → i + cs.length = 105 → w ≤ i → (∀ q, s = some q → p ≤ q ∧ q ≤ e) → Q (nI (nt_wa b p e cs w s)) I → ny_g (d + 5) m_Ta_wordAt 8 [(0, .ref 54), (1, .int (nI p)), (2, .int (nI e)), (3, .int (nI w)), (4, .int (nt_o s)), (5, .int (nI i))] [] Ln I (ny_r1 Ln Q) := by
    intro cs
    induction cs with
    | nil =>
      intro i w s hd hl hw hs hq
      rw [List.length_nil] at hl
      refine s_Ta_wordAt_8 (q_Js_length hT ?_)
      rw [ny_le (by decide) (by omega)]
      exact ⟨fun _ => hq, fun c => absurd (by omega) c⟩
    | cons c cs ih =>
      intro i w s hd hl hw hs hq
      obtain ⟨d1, d2, d3⟩ := nt_drop hd
      rw [List.length_cons] at hl
      refine s_Ta_wordAt_8 (q_Js_length hT ?_)
      rw [ny_le (by decide) (by omega)]
      refine ⟨fun c => absurd c (by omega), fun _ => q_Js_charAt hT d1 ?_⟩
      have hc : c < 128 := by rw [← d2]; exact nt_tx_lt i d1
      have ei : nI i + 1 = nI (i + 1) := nI_add i 1
      have ew : nI w + 1 = nI (w + 1) := nI_add w 1
      rw [d2, ei, ew]
      have e32 : nI c = 32 ↔ c = 32 := ny_eq (b := 32) (by omega) (by decide)
      rw [e32]
      refine ⟨fun c32 => ?_, fun c32 => ?_⟩
      · rw [nt_wa_c, if_pos c32] at hq
        refine ⟨fun ne => ?_, fun eq => ?_⟩
        · have hne : ¬ s = some e := by
            intro q; subst q; exact ne rfl
          rw [if_neg hne] at hq
          exact ih (i + 1) (w + 1) (some p) d3 (by omega) (by omega) (fun q hq => by injection hq; omega) hq
        · have hse : s = some e := by
            cases s with
            | none => exact absurd eq (by intro q; have q1 : nI e < 0 := (by rw [← (show (-1 : Int32) = nI e from q)]; decide); exact absurd ((ny_lt (b := 0) (by omega) (by omega)).mp q1) (by omega))
            | some q => rw [(ny_eq (by have := hs q rfl; omega) (by omega)).mp eq]
          rw [if_pos hse] at hq
          exact hq
      · rw [nt_wa_c, if_neg c32] at hq
        have hnone : Q (nI (nt_wa b p e cs w none)) I → ny_g (d + 5) m_Ta_wordAt 8 [(0, .ref 54), (1, .int (nI p)), (2, .int (nI e)), (3, .int (nI w)), (4, .int (-1)), (5, .int (nI (i + 1)))] [] Ln I (ny_r1 Ln Q) := fun hq => ih (i + 1) w none d3 (by omega) (by omega) (fun q hq => by injection hq) hq
        cases s with
        | none =>
          refine ⟨fun _ => hnone hq, fun q => absurd ?_ q⟩
          show (-1 : Int32) < nI p
          rcases Nat.lt_or_ge p (2 ^ 31) with hp2 | hp2
          · have := (ny_le (a := 0) (b := p) (by decide) hp2).mpr (by omega)
            exact Int32.lt_of_lt_of_le (by decide) this
          · omega
        | some q =>
          obtain ⟨q1, q2⟩ := hs q rfl
          show (nI q < nI p → _) ∧ (¬ nI q < nI p → _)
          rw [ny_lt (by omega) (by omega)]
          refine ⟨fun x => absurd x (by omega), fun _ => ?_⟩
          show (nI e ≤ nI q → _) ∧ (¬ nI e ≤ nI q → _)
          rw [ny_le (by omega) (by omega)]
          have hq : Q (nI (nt_wa b p e cs w (if q < e ∧ b q = c then some (q + 1) else none))) I := hq
          refine ⟨fun x => hnone ?_, fun x => ⟨ny_inN (by omega) (by decide), ?_⟩⟩
          · rw [if_neg (fun y => by omega)] at hq; exact hq
          · show (¬ I 55 (nI q).toNatClampNeg = nI c → _) ∧ (I 55 (nI q).toNatClampNeg = nI c → _)
            rw [nI_clamp (by omega), hC.2 q (by omega), nt_sb_e (hV.2 q (by omega)) hc]
            refine ⟨fun y => hnone ?_, fun y => ?_⟩
            · rw [if_neg (fun z => y z.2)] at hq; exact hq
            · rw [if_pos ⟨by omega, y⟩] at hq
              have := ih (i + 1) w (some (q + 1)) d3 (by omega) (by omega) (fun r hr => by injection hr; omega) hq
              show ny_g _ _ _ [(0, .ref 54), (1, .int (nI p)), (2, .int (nI e)), (3, .int (nI w)), (4, .int (nI q + 1)), (5, .int (nI (i + 1)))] _ _ _ _
              rw [nI_1]; exact this
  exact key nt_tx 0 0 (some p) rfl (by rw [nt_tx_len]) (Nat.le_refl _) (fun q hq => by injection hq; omega) h
theorem nt_wd_by {p : Nat} : nt_by2 p (nt_en T b p) b = nt_wd T b p := rfl
theorem q_Ta_tokenAt {p : Nat} (hT : nt_T I) (hC : nt_C I T b) (hV : nt_V T b) (hp : p < T) (h : Q (nI (nt_ty T b p)) I) : ny_C1 (d + 6) m_Ta_tokenAt [.ref 54, .int (nI p)] Ln I Q := by
  have v := hV.1
  obtain ⟨e1, e2, e3, e4⟩ := nt_en_p (T := T) (b := b) (p := p)
  have e2 := e2 (by omega)
  refine s_Ta_tokenAt_0 ⟨ny_inN (by omega) (by decide), ?_⟩
  rw [nI_clamp (by omega), hC.2 p hp]
  unfold nt_ty at h
  rw [if_pos hp] at h
  refine q_Ta_isLetter (hV.2 p hp) ?_
  by_cases hl : nt_la b p = true
  · rw [if_pos hl]
    rw [if_pos hl] at h
    refine ⟨fun q => absurd q (by decide), fun _ => ?_⟩
    exact q_Ta_endOf hC hV hp (q_Ta_wordAt hT hC hV e1 e2 h)
  · rw [if_neg hl]
    rw [if_neg hl] at h
    refine ⟨fun _ => q_Ta_isDigit (hV.2 p hp) ?_, fun q => absurd rfl q⟩
    by_cases hd : nt_di b p = true
    · rw [if_pos hd]
      rw [if_pos hd] at h
      refine ⟨fun q => absurd q (by decide), fun _ => q_Ta_endOf hC hV hp ?_⟩
      rw [pk_sub e1, ny_lit, ny_lt (by decide) (by omega)]
      refine ⟨fun c => ?_, fun c => ?_⟩
      · rw [if_neg (by omega)] at h; exact h
      · rw [if_pos (by omega)] at h; exact h
    · rw [if_neg hd]
      rw [if_neg hd] at h
      refine ⟨fun _ => q_Ta_isSign (hV.2 p hp) ?_, fun q => absurd rfl q⟩
      by_cases hs : nt_sg (b p)
      · rw [if_pos hs]
        rw [if_pos hs] at h
        refine ⟨fun q => absurd q (by decide), fun _ => ?_⟩
        rw [(nt_sbl _ (hV.2 p hp)).2.2.2.2.2.2.2.2.1 (by unfold nt_sg at hs; omega)]
        exact h
      · rw [if_neg hs]
        rw [if_neg hs] at h
        exact ⟨fun _ => h, fun q => absurd rfl q⟩
theorem q_Ta_numberAt {p : Nat} (hC : nt_C I T b) (hV : nt_V T b) (hp : nt_ty T b p = 18) (h : Q (nI (nt_val T b p)) I) : ny_C1 (d + 3) m_Ta_numberAt [.ref 54, .int (nI p)] Ln I Q := by
  have v := hV.1
  obtain ⟨hT, _, _, h4, _, hj⟩ := nt_ty_n hp
  obtain ⟨e1, e2, e3, e4⟩ := nt_en_p (T := T) (b := b) (p := p)
  have e2 := e2 (by omega)
  refine s_Ta_numberAt_0 ?_
  have key : ∀ n j v, p ≤ j → j + n = nt_en T b p → (v + 1) * 10 ^ n ≤ 10000 → Q (nI (nt_num b n j v)) I → ny_g (d + 3) m_Ta_numberAt 4 [(0, .ref 54), (1, .int (nI p)), (2, .int (nI v)), (3, .int (nI j))] [] Ln I (ny_r1 Ln Q) := by
    intro n
    induction n with
    | zero =>
      intro j v x y z h
      refine s_Ta_numberAt_4 (q_Ta_endOf hC hV hT ?_)
      rw [ny_le (by omega) (by omega)]
      exact ⟨fun _ => h, fun c => absurd (by omega) c⟩
    | succ n ih =>
      intro j v x y z h
      refine s_Ta_numberAt_4 (q_Ta_endOf hC hV hT ?_)
      rw [ny_le (by omega) (by omega)]
      refine ⟨fun c => absurd c (by omega), fun _ => ⟨ny_inN (by omega) (by decide), ?_⟩⟩
      have b1 := hj j x (by omega)
      rw [nI_clamp (by omega), hC.2 j (by omega), (nt_sbl _ (hV.2 j (by omega))).2.2.2.2.2.2.2.2.1 (by omega), nI_1]
      have e10 : nI v * 10 + nI (b j) - 48 = nI (10 * v + (b j - 48)) := by
        rw [show (10 : Int32) = nI 10 from rfl, ny_mul, nI_add]
        rw [show (48 : Int32) = nI 48 from rfl, pk_sub (by omega)]
        congr 1
        omega
      rw [e10]
      refine ih (j + 1) _ (by omega) (by omega) ?_ h
      rw [Nat.pow_succ, Nat.mul_comm (10 ^ n) 10, ← Nat.mul_assoc] at z
      exact Nat.le_trans (Nat.mul_le_mul_right _ (by omega)) z
  exact key (nt_en T b p - p) p 0 (Nat.le_refl _) (by omega) (by rw [Nat.zero_add, Nat.one_mul]; exact nt_p10 _ (by omega)) h
theorem q_Ta_addToken {p k : Nat} (hC : nt_C I T b) (hV : nt_V T b) (hk : k ≤ 200) (h5 : I 54 5 = nI k) (h : ∀ I', (∀ c, c ≠ 54 → c ≠ 56 → c ≠ 57 → c ≠ 58 → I' c = I c) → (∀ j, j ≠ 5 → I' 54 j = I 54 j) → (∀ j, j ≠ k → I' 56 j = I 56 j ∧ I' 57 j = I 57 j ∧ I' 58 j = I 58 j) → I' 54 5 = nI (k + 1) → I' 56 k = nI (nt_ty T b p) → I' 58 k = nI p → (nt_ty T b p = 18 → I' 57 k = nI (nt_val T b p)) → Q0 I') : ny_C0 (d + 4) m_Ta_addToken [.ref 54, .int (nI (nt_ty T b p)), .int (nI p)] Ln I Q0 := by
  have v := hV.1
  have vt := nt_ty_lt T b p
  refine s_Ta_addToken_0 ?_
  rw [h5, ny_lit, ny_lt (by decide) (by omega)]
  refine ⟨fun c => absurd c (by omega), fun _ => ⟨ny_inN (by omega) (by decide), ?_⟩⟩
  have u1 : ∀ x, ny_up I 56 (nI k).toNatClampNeg x 54 5 = nI k := fun x => by rw [ny_upne _ (by decide)]; exact h5
  have u2 : ∀ x y, ny_up (ny_up I 56 (nI k).toNatClampNeg x) 57 (nI k).toNatClampNeg y 54 5 = nI k := fun x y => by rw [ny_upne _ (by decide), ny_upne _ (by decide)]; exact h5
  have u3 : ∀ x y z, ny_up (ny_up (ny_up I 56 (nI k).toNatClampNeg x) 57 (nI k).toNatClampNeg y) 58 (nI k).toNatClampNeg z 54 5 = nI k := fun x y z => by rw [ny_upne _ (by decide), ny_upne _ (by decide), ny_upne _ (by decide)]; exact h5
  have fin : ∀ y, (nt_ty T b p = 18 → y = nI (nt_val T b p)) → Q0 (ny_up (ny_up (ny_up (ny_up I 56 (nI k).toNatClampNeg (nI (nt_ty T b p))) 57 (nI k).toNatClampNeg y) 58 (nI k).toNatClampNeg (nI p)) 54 5 (nI k + 1)) := by
    intro y hy
    rw [nI_clamp (by omega), nI_1]
    refine h _ (fun c a1 a2 a3 a4 => ?_) (fun j hj => ?_) (fun j hj => ⟨?_, ?_, ?_⟩) ?_ ?_ ?_ (fun q => ?_)
    · rw [ny_upne _ a1, ny_upne _ a4, ny_upne _ a3, ny_upne _ a2]
    all_goals simp (disch := omega) only [ny_uprd, if_true, if_false, if_neg, and_self, true_and, and_true, false_and, and_false]
    exact hy q
  refine ⟨fun c18 => ?_, fun c18 => ?_⟩
  · rw [u1, u2, u3]
    exact ⟨ny_inN (by omega) (by decide), ny_inN (by omega) (by decide), fin _ fun q => absurd (by rw [q]; rfl) c18⟩
  · have c18 : nI (nt_ty T b p) = nI 18 := c18
    rw [ny_eq (by omega) (by decide)] at c18
    have hC' : nt_C (ny_up I 56 (nI k).toNatClampNeg (nI (nt_ty T b p))) T b := by
      refine ⟨?_, fun j hj => ?_⟩
      · rw [ny_upne _ (by decide)]; exact hC.1
      · rw [ny_upne _ (by decide)]; exact hC.2 j hj
    refine q_Ta_numberAt hC' hV c18 ?_
    rw [u1, u2, u3]
    exact ⟨ny_inN (by omega) (by decide), ny_inN (by omega) (by decide), fin _ fun _ => rfl⟩
def nt_at (I : ny_I) (T : Nat) (b : Nat → Nat) (p : Nat) : Prop := ∃ n k, n ≤ 200 ∧ k ≤ n ∧ nt_pl T b n = T ∧ nt_pl T b k = p ∧ I 54 5 = nI (n + 1) ∧ nt_tok I T b (n + 1) ∧ I 54 6 = nI k ∧ I 54 7 = nI (nt_ty T b p)
theorem q_Ta_split (hT : nt_T I) (hC : nt_C I T b) (hV : nt_V T b) (h : ∀ I', (∀ c, c ≠ 54 → c ≠ 56 → c ≠ 57 → c ≠ 58 → I' c = I c) → nt_C I' T b → nt_at I' T b (nt_sk T b 0) → Q0 I') : ny_C0 (d + 7) m_Ta_split [.ref 54] Ln I Q0 := by
  have v := hV.1
  refine s_Ta_split_0 ?_
  have key : ∀ m i k (I1 : ny_I), i + m = T → k ≤ nt_pl T b k → i ≤ nt_pl T b k → (∀ j, i ≤ j → j < nt_pl T b k → nt_bk b j = true ∨ nt_go T b j = true) → (∀ c, c ≠ 54 → c ≠ 56 → c ≠ 57 → c ≠ 58 → I1 c = I c) → I1 54 1 = nI T → I1 54 6 = 0 → I1 54 5 = nI k → nt_tok I1 T b k → ny_g (d + 7) m_Ta_split 12 [(0, .ref 54), (1, .int (nI i))] [] Ln I1 (ny_r0 Ln Q0) := by
    intro m
    induction m with
    | zero =>
      intro i k I1 hm hk hi hg hF h1 h6 h5 ht
      have hst := (nt_pl_st (T := T) (b := b) k).1
      have eT : nt_pl T b k = T := by omega
      refine s_Ta_split_12 ?_
      rw [h1, ny_le (by omega) (by omega)]
      refine ⟨fun _ => ?_, fun c => absurd (by omega) c⟩
      have et : nI (nt_ty T b T) = (19 : Int32) := by unfold nt_ty; rw [if_neg (by omega)]; rfl
      rw [← et]
      have hC1 : nt_C I1 T b := ⟨h1, fun j hj => by rw [hF 55 (by decide) (by decide) (by decide) (by decide)]; exact hC.2 j hj⟩
      refine q_Ta_addToken hC1 hV (by omega) h5 fun I2 a1 a2 a3 a4 a5 a6 a7 => ⟨by decide, ?_⟩
      have tk : nt_tok I2 T b (k + 1) := by
        intro j hj
        by_cases ej : j = k
        · subst ej; rw [eT]; exact ⟨a5, a6, a7⟩
        · obtain ⟨g1, g2, g3⟩ := a3 j ej
          rw [g1, g2, g3]; exact ht j (by omega)
      refine h _ (fun c x y z w => ?_) ⟨?_, fun j hj => ?_⟩ ⟨k, 0, by omega, by omega, eT, rfl, ?_, ?_, ?_, ?_⟩
      · rw [ny_upne _ x, a1 c x y z w, hF c x y z w]
      · rw [ny_uprd, if_neg (by omega), a2 1 (by omega)]; exact h1
      · rw [ny_upne _ (by decide), a1 55 (by decide) (by decide) (by decide) (by decide)]; exact hC1.2 j hj
      · rw [ny_uprd, if_neg (by omega)]; exact a4
      · intro j hj
        rw [ny_upne _ (by decide), ny_upne _ (by decide), ny_upne _ (by decide)]; exact tk j hj
      · rw [ny_uprd, if_neg (by omega), a2 6 (by omega)]; exact h6
      · rw [ny_uprd, if_pos ⟨rfl, rfl⟩]; exact (tk 0 (by omega)).1
    | succ m ih =>
      intro i k I1 hm hk hi hg hF h1 h6 h5 ht
      have hC1 : nt_C I1 T b := ⟨h1, fun j hj => by rw [hF 55 (by decide) (by decide) (by decide) (by decide)]; exact hC.2 j hj⟩
      have hT1 : nt_T I1 := ⟨by rw [hF 2 (by decide) (by decide) (by decide) (by decide)]; exact hT.1, by rw [hF 3 (by decide) (by decide) (by decide) (by decide)]; exact hT.2⟩
      have hst := nt_pl_st (T := T) (b := b) k
      refine s_Ta_split_12 ?_
      rw [h1, ny_le (by omega) (by omega)]
      refine ⟨fun c => absurd c (by omega), fun _ => ⟨ny_inN (by omega) (by decide), ?_⟩⟩
      rw [nI_clamp (by omega), hC1.2 i (by omega), nI_1]
      have e32 := (nt_sbl _ (hV.2 i (by omega))).2.2.2.2.2.2.2.1
      rw [e32]
      refine ⟨fun c => ?_, fun c => ?_⟩
      · have hne : ¬ i = nt_pl T b k := by
          intro q
          have := (hst.2 (by omega)).1
          rw [← q] at this
          unfold nt_bk at this
          rw [decide_eq_true c] at this
          exact absurd this (by decide)
        exact ih (i + 1) k I1 (by omega) hk (by omega) (fun j x y => hg j (by omega) y) hF h1 h6 h5 ht
      · refine q_Ta_goesOn hC1 hV (by omega) ?_
        by_cases hgo : nt_go T b i = true
        · rw [if_pos hgo]
          have hne : ¬ i = nt_pl T b k := by
            intro q
            have := (hst.2 (by omega)).2
            rw [← q, hgo] at this
            exact absurd this (by decide)
          refine ⟨fun _ => ih (i + 1) k I1 (by omega) hk (by omega) (fun j x y => hg j (by omega) y) hF h1 h6 h5 ht, fun q => absurd q (by decide)⟩
        · rw [if_neg hgo]
          have heq : nt_pl T b k = i := by
            refine Classical.byContradiction fun q => ?_
            rcases hg i (Nat.le_refl _) (by omega) with x | x
            · unfold nt_bk at x
              rw [decide_eq_true_eq] at x
              exact c x
            · exact hgo x
          refine ⟨fun q => absurd rfl q, fun _ => q_Ta_tokenAt hT1 hC1 hV (by omega) (q_Ta_addToken hC1 hV (by omega) h5 fun I2 a1 a2 a3 a4 a5 a6 a7 => ?_)⟩
          have hn := nt_nx_lt (T := T) (b := b) (p := i) (by omega)
          have e4 := (nt_en_p (T := T) (b := b) (p := i)).2.2.2
          have hpl : nt_pl T b (k + 1) = nt_nx T b i := by
            show nt_nx T b (nt_pl T b k) = _
            rw [heq]
          refine ih (i + 1) (k + 1) I2 (by omega) (by omega) (by omega) (fun j x y => ?_) (fun c x y z w => by rw [a1 c x y z w, hF c x y z w]) ?_ ?_ a4 ?_
          · rcases Nat.lt_or_ge j (nt_en T b i) with z | z
            · exact Or.inr (e4 j (by omega) z).1
            · rw [hpl] at y
              exact Or.inl ((nt_sk_p (T := T) (b := b) (nt_en T b i)).2.2.1 j z y)
          · rw [a2 1 (by decide)]; exact h1
          · rw [a2 6 (by decide)]; exact h6
          · intro j hj
            by_cases ej : j = k
            · subst ej; rw [heq]; exact ⟨a5, a6, a7⟩
            · obtain ⟨g1, g2, g3⟩ := a3 j ej
              rw [g1, g2, g3]; exact ht j (by omega)
  have h0 := nt_pl_st (T := T) (b := b) 0
  refine key T 0 0 _ (by omega) (by omega) (by omega) (fun j x y => Or.inl ((nt_sk_p (T := T) (b := b) 0).2.2.1 j x y)) (fun c x _ _ _ => ?_) ?_ ?_ ?_ (fun j hj => absurd hj (by omega))
  · rw [ny_upne _ x, ny_upne _ x]
  · rw [ny_uprd, if_neg (by omega), ny_uprd, if_neg (by omega)]; exact hC.1
  · rw [ny_uprd, if_pos ⟨rfl, rfl⟩]
  · rw [ny_uprd, if_neg (by omega), ny_uprd, if_pos ⟨rfl, rfl⟩]; rfl
theorem q_Ta_pass {p : Nat} (hA : nt_at I T b p) (h : ∀ I', (∀ c, c ≠ 54 → I' c = I c) → (∀ j, j ≠ 6 → j ≠ 7 → I' 54 j = I 54 j) → nt_at I' T b (nt_nx T b p) → Q0 I') : ny_C0 d m_Ta_pass [.ref 54] Ln I Q0 := by
  obtain ⟨n, k, hn, hk, hpn, hpk, h5, ht, h6, h7⟩ := hA
  refine s_Ta_pass_0 ?_
  have e5 : I 54 5 - 1 = nI n := by rw [h5]; exact pk_sub (b := 1) (by omega)
  rw [e5, h6, ny_le (by omega) (by omega)]
  refine ⟨fun c => ⟨ny_inN (by omega) (by decide), ?_⟩, fun c => ?_⟩
  · have ek : k = n := by omega
    have ep : p = T := by rw [← hpk, ek]; exact hpn
    rw [nI_clamp (by omega), (ht k (by omega)).1, hpk]
    refine h _ (fun c x => by rw [ny_upne _ x]) (fun j _ x => by rw [ny_uprd, if_neg (by omega)]) ⟨n, k, hn, hk, hpn, ?_, ?_, fun j hj => ?_, ?_, ?_⟩
    · rw [hpk, ep, nt_nx_T]
    · rw [ny_uprd, if_neg (by omega)]; exact h5
    · rw [ny_upne _ (by decide), ny_upne _ (by decide), ny_upne _ (by decide)]; exact ht j hj
    · rw [ny_uprd, if_neg (by omega)]; exact h6
    · rw [ny_uprd, if_pos ⟨rfl, rfl⟩, ep, nt_nx_T]
  · rw [nI_1]
    have u : ny_up I 54 6 (nI (k + 1)) 54 6 = nI (k + 1) := by rw [ny_uprd, if_pos ⟨rfl, rfl⟩]
    rw [u, nI_clamp (by omega), ny_upne _ (show (56 : Nat) ≠ 54 by decide), (ht (k + 1) (by omega)).1]
    have ep : nt_pl T b (k + 1) = nt_nx T b p := by
      show nt_nx T b (nt_pl T b k) = _
      rw [hpk]
    refine ⟨ny_inN (by omega) (by decide), h _ (fun c x => by rw [ny_upne _ x, ny_upne _ x]) (fun j x y => by rw [ny_uprd, if_neg (by omega), ny_uprd, if_neg (by omega)]) ⟨n, k + 1, hn, by omega, hpn, ep, ?_, fun j hj => ?_, ?_, ?_⟩⟩
    · rw [ny_uprd, if_neg (by omega), ny_uprd, if_neg (by omega)]; exact h5
    · rw [ny_upne _ (by decide), ny_upne _ (by decide), ny_upne _ (by decide), ny_upne _ (by decide), ny_upne _ (by decide), ny_upne _ (by decide)]; exact ht j hj
    · rw [ny_uprd, if_neg (by omega)]; exact u
    · rw [ny_uprd, if_pos ⟨rfl, rfl⟩, ep]
theorem q_Ta_passes {p w : Nat} (hA : nt_at I T b p) (hw : w < 63) (h0 : ¬ nt_ty T b p = w → Q (nI 0) I) (h1 : nt_ty T b p = w → ∀ I', (∀ c, c ≠ 54 → I' c = I c) → (∀ j, j ≠ 6 → j ≠ 7 → I' 54 j = I 54 j) → nt_at I' T b (nt_nx T b p) → Q (nI 1) I') : ny_C1 (d + 1) m_Ta_passes [.ref 54, .int (nI w)] Ln I Q := by
  have vt := nt_ty_lt T b p
  have hA2 := hA
  obtain ⟨n, k, _, _, _, _, _, _, _, h7⟩ := hA2
  refine s_Ta_passes_0 ?_
  rw [h7, ny_eq (by omega) (by omega)]
  exact ⟨fun c => q_Ta_pass hA (h1 c), fun c => h0 c⟩
end NZLY
