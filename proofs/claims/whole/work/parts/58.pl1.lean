/-! plans: what they come to, and the model's -/
/-- of the best plans: worth, how many, the first one's acts; the fewest acts (9: none), who was relieved ever -/
abbrev nz_ps : Type := Nat × Nat × (Nat → Nat) × Nat × Nat
def nz_lp {α : Type} (g : Nat → α → α) : Nat → Nat → α → α
  | _, 0, s => s
  | o, n + 1, s => nz_lp g (o + 1) n (g o s)
def nz_lf (wn w told : Nat) (acts : Nat → Nat) (now : Nat) (s : nz_ps) : nz_ps :=
  (if s.2.1 = 0 ∨ s.1 < w then w else s.1, if s.2.1 = 0 ∨ s.1 < w then 1 else if w = s.1 then s.2.1 + 1 else s.2.1, if s.2.1 = 0 ∨ s.1 < w then acts else s.2.2.1,
   if wn &&& (63 - now) = 0 ∧ told < s.2.2.2.1 then told else s.2.2.2.1, s.2.2.2.2 ||| now)
def nz_pl (wn : Nat) : Nat → ny_a → Nat → Nat → Nat → (Nat → Nat) → nz_ps → nz_ps
  | 0, a, _, w, told, acts, s => nz_lf wn w told acts (nz_msk (nz_L a)) s
  | f + 1, a, k, w, told, acts, s => nz_lp (fun act s => nz_pl wn f (ny_goa a act) (k + 1) (w + ny_gow a act) (if act = 0 then told else told + 1) (fun j => if j = k then act else acts j) s) 0 (a 0 + 1) s
def nz_pln (a : ny_a) (n wn : Nat) : nz_ps := nz_pl wn (min n (a 2 - a 1)) a 0 0 0 (fun _ => 0) (0, 0, fun _ => 0, 9, 0)
def nz_pb (W : Nat) (s : nz_ps) : Prop := s.1 ≤ 340 ∧ s.2.1 ≤ W ∧ s.2.2.2.1 ≤ 9 ∧ s.2.2.2.2 < 64
theorem nz_pb_m {W W' : Nat} {s : nz_ps} (h : nz_pb W s) (hW : W ≤ W') : nz_pb W' s := ⟨h.1, Nat.le_trans h.2.1 hW, h.2.2⟩
theorem nz_lf_b {wn w told now W : Nat} {acts : Nat → Nat} {s : nz_ps} (hw : w ≤ 340) (ht : told ≤ 9) (hn : now < 64) (h : nz_pb W s) : nz_pb (W + 1) (nz_lf wn w told acts now s) := by
  obtain ⟨h1, h2, h3, h4⟩ := h
  refine ⟨?_, ?_, ?_, (nz_or2 _ h4 _ hn).2⟩
  · show (if s.2.1 = 0 ∨ s.1 < w then w else s.1) ≤ 340
    split <;> omega
  · show (if s.2.1 = 0 ∨ s.1 < w then 1 else if w = s.1 then s.2.1 + 1 else s.2.1) ≤ W + 1
    split
    · omega
    · split <;> omega
  · show (if wn &&& (63 - now) = 0 ∧ told < s.2.2.2.1 then told else s.2.2.2.1) ≤ 9
    split <;> omega
theorem nz_pl_b (wn : Nat) : ∀ f {a : ny_a} {k w told W : Nat} {acts : Nat → Nat} {s : nz_ps}, ny_V a → a 1 + f ≤ a 2 → w + 85 * f ≤ 340 → told + f ≤ 4 → nz_pb W s → nz_pb (W + 7 ^ f) (nz_pl wn f a k w told acts s) := by
  intro f
  induction f with
  | zero =>
    intro a k w told W acts s hV h1 h2 h3 h4
    exact nz_lf_b (by omega) (by omega) (nz_msk_k _).1 h4
  | succ f ih =>
    intro a k w told W acts s hV h1 h2 h3 h4
    have v := hV.1
    rw [nz_pl]
    have key : ∀ n o s W, o + n = a 0 + 1 → nz_pb W s → nz_pb (W + n * 7 ^ f) (nz_lp (fun act s => nz_pl wn f (ny_goa a act) (k + 1) (w + ny_gow a act) (if act = 0 then told else told + 1) (fun j => if j = k then act else acts j) s) o n s) := by
      intro n
      induction n with
      | zero =>
        intro o s W ho h
        rw [nz_lp, Nat.zero_mul]
        exact h
      | succ n ihn =>
        intro o s W ho h
        have g := nz_go hV (act := o) (by omega) (by omega)
        have g2 := nz_Sm0 g.2.2.1
        have t : (if o = 0 then told else told + 1) ≤ told + 1 := by split <;> omega
        rw [nz_lp, Nat.succ_mul]
        refine nz_pb_m (ihn (o + 1) _ (W + 7 ^ f) (by omega) (ih g.2.1 (by omega) (by omega) (by omega) h)) (by omega)
    refine nz_pb_m (key (a 0 + 1) 0 s W (by omega) h4) ?_
    have := Nat.mul_le_mul_right (7 ^ f) (show a 0 + 1 ≤ 7 by omega)
    rw [Nat.pow_succ, Nat.mul_comm (7 ^ f) 7]
    omega
theorem nz_lf_1 {wn w told now : Nat} {acts : Nat → Nat} {s : nz_ps} : 1 ≤ (nz_lf wn w told acts now s).2.1 := by
  show 1 ≤ (if s.2.1 = 0 ∨ s.1 < w then 1 else if w = s.1 then s.2.1 + 1 else s.2.1)
  split
  · omega
  · split <;> omega
theorem nz_lp_i {α : Type} {P : α → Prop} {g : Nat → α → α} (h : ∀ o s, P (g o s)) : ∀ n o s, 0 < n → P (nz_lp g o n s) := by
  intro n
  induction n with
  | zero => intro o s h; omega
  | succ n ih =>
    intro o s _
    rw [nz_lp]
    rcases Nat.eq_zero_or_pos n with e | e
    · subst e; exact h o s
    · exact ih (o + 1) _ e
theorem nz_pl_1 (wn : Nat) : ∀ f (a : ny_a) (k w told : Nat) (acts : Nat → Nat) (s : nz_ps), 1 ≤ (nz_pl wn f a k w told acts s).2.1 := by
  intro f
  induction f with
  | zero => intro a k w told acts s; exact nz_lf_1
  | succ f ih =>
    intro a k w told acts s
    rw [nz_pl]
    exact nz_lp_i (P := fun s : nz_ps => 1 ≤ s.2.1) (fun o s => ih _ _ _ _ _ _) _ _ _ (by omega)
/-- the model's fields hold it -/
def nz_MP (L : Nat) (I : ny_I) (wn : Nat) (s : nz_ps) : Prop := I 102 15 = (if s.2.1 = 0 then nI 4294967295 else nI s.1) ∧ I 102 16 = nI s.2.1 ∧ I 102 18 = nI wn ∧ I 102 19 = nI s.2.2.2.1 ∧ I 102 20 = nI s.2.2.2.2 ∧
  (s.2.1 ≠ 0 → I 102 17 = nI L ∧ ∀ j, j < L → I 109 j = nI (s.2.2.1 j))
theorem nz_MP_mv {L : Nat} {I I' : ny_I} {wn : Nat} {s : nz_ps} (h2 : I' 102 = I 102) (h9 : I' 109 = I 109) (h : nz_MP L I wn s) : nz_MP L I' wn s := by
  unfold nz_MP
  rw [h2, h9]; exact h
/-- what the model's plans change -/
def nz_pf (k : Nat) (I' I : ny_I) (a : ny_a) : Prop := ny_Md I' a ∧ (∀ c, c ≠ 102 → c ≠ 103 → c ≠ 105 → c ≠ 108 → c ≠ 109 → I' c = I c) ∧ (∀ j, j < 15 ∨ 20 < j → I' 102 j = I 102 j) ∧ (∀ j, j < 38 * k → I' 105 j = I 105 j) ∧ ∀ j, j < k → I' 108 j = I 108 j
theorem nz_neg1 {w : Nat} (h : w < 2 ^ 31) : ¬ nI w ≤ nI 4294967295 := by
  intro q
  rw [Int32.le_iff_toInt_le, nI_toInt h, show (nI 4294967295).toInt = -1 by decide +kernel] at q
  omega
section NZPL
variable {d Ln : Nat} {I : ny_I} {Q : Int32 → ny_I → Prop} {Q0 : ny_I → Prop} {a : ny_a}
theorem q_Md_pl82 {t1 t2 : Int32} {wn told few reach ways : Nat} (ha : ny_Md I a) (hV : ny_V a) (hw : wn < 64) (hr : reach < 64) (hf : few ≤ 9) (ht : told ≤ 4) (e20 : I 102 20 = nI reach) (e18 : I 102 18 = nI wn) (e19 : I 102 19 = nI few) (e16 : t1 + t2 = nI ways)
    (h : ∀ I', (∀ c, c ≠ 102 → I' c = I c) → (∀ j, j ≠ 16 → j ≠ 19 → j ≠ 20 → I' 102 j = I 102 j) → I' 102 16 = nI ways → I' 102 19 = nI (if wn &&& (63 - nz_msk (nz_L a)) = 0 ∧ told < few then told else few) → I' 102 20 = nI (reach ||| nz_msk (nz_L a)) → Q0 I') :
    ny_g (d + 2) m_Md_plans 82 [(0, .ref 102), (4, .int (nI told))] [.int t2, .int t1, .ref 102] Ln I (ny_r0 Ln Q0) := by
  have hL := (nz_msk_k (nz_L a)).1
  refine s_Md_plans_82 (q_Md_relievedOnes (d := d) (a := a) (fun j => by rw [ny_upne _ (by decide)]; exact ha j) hV ?_)
  rw [e16]
  obtain ⟨d1, d2, -⟩ := nz_dif wn hw _ hL
  obtain ⟨o1, o2⟩ := nz_or2 reach hr _ hL
  generalize nz_msk (nz_L a) = now at *
  simp (disch := omega) only [ny_uprd, if_neg, e18, e19, e20, if_true, and_self]
  rw [d1, o1]
  generalize wn &&& (63 - now) = m at *
  simp (disch := omega) only [ny_lit, nI_add, ny_mul, nI_clamp, ny_le, ny_lt, ny_eq, ny_div, ny_rem, ny_rem2, ny_inN]
  refine ⟨fun c => ?_, fun c => ⟨fun c2 => ?_, fun c2 => ?_⟩⟩
  · refine h _ (fun c x => ?_) (fun j x y z => ?_) ?_ ?_ ?_
    · rw [ny_upne _ x, ny_upne _ x, ny_upne _ x]
    · simp (disch := omega) only [ny_uprd, if_neg]
    · simp (disch := omega) only [ny_uprd, if_neg, if_true, and_self]
    · rw [if_neg (by omega)]
      simp (disch := omega) only [ny_uprd, if_neg, if_true, and_self]
    · simp (disch := omega) only [ny_uprd, if_neg, if_true, and_self]
  · refine h _ (fun c x => ?_) (fun j x y z => ?_) ?_ ?_ ?_
    · rw [ny_upne _ x, ny_upne _ x, ny_upne _ x]
    · simp (disch := omega) only [ny_uprd, if_neg]
    · simp (disch := omega) only [ny_uprd, if_neg, if_true, and_self]
    · rw [if_neg (by omega)]
      simp (disch := omega) only [ny_uprd, if_neg, if_true, and_self]
    · simp (disch := omega) only [ny_uprd, if_neg, if_true, and_self]
  · refine h _ (fun c x => ?_) (fun j x y z => ?_) ?_ ?_ ?_
    · rw [ny_upne _ x, ny_upne _ x, ny_upne _ x]
    · simp (disch := omega) only [ny_uprd, if_neg]
    · simp (disch := omega) only [ny_uprd, if_neg, if_true, and_self]
    · rw [if_pos (by omega)]
      simp (disch := omega) only [ny_uprd, if_true, and_self]
    · simp (disch := omega) only [ny_uprd, if_neg, if_true, and_self]
theorem q_Md_plLeaf {k w told wn W : Nat} {acts : Nat → Nat} {s : nz_ps} (ha : ny_Md I a) (hV : ny_V a) (hw6 : wn < 64) (hk : k ≤ 4) (hw : w ≤ 340) (ht : told ≤ 4) (hs : nz_pb W s) (hW : W < 2 ^ 30) (hM : nz_MP k I wn s) (hA : ∀ j, j < k → I 108 j = nI (acts j))
    (h : ∀ I', nz_pf k I' I a → nz_MP k I' wn (nz_lf wn w told acts (nz_msk (nz_L a)) s) → Q0 I') : ny_g (d + 2) m_Md_plans 12 [(0, .ref 102), (1, .int (nI k)), (3, .int (nI w)), (4, .int (nI told))] [] Ln I (ny_r0 Ln Q0) := by
  obtain ⟨w0, y0, f0, few, reach⟩ := s
  obtain ⟨b1, b2, b3, b4⟩ := hs
  obtain ⟨M1, M2, M3, M4, M5, M6⟩ := hM
  dsimp only at b1 b2 b3 b4 M1 M2 M3 M4 M5 M6
  refine s_Md_plans_12 ⟨fun c => ?_, fun c => ?_⟩
  · rw [M1] at c
    by_cases y : y0 = 0
    · rw [if_pos y] at c
      exact absurd c (nz_neg1 (by omega))
    · rw [if_neg y, ny_le (by omega) (by omega)] at c
      rw [M1, if_neg y, M2, ny_eq (by omega) (by omega)]
      have M6 := M6 y
      refine ⟨fun c2 => ?_, fun c2 => ?_⟩
      · refine q_Md_pl82 (t1 := nI y0) (t2 := 0) (ways := y0) ha hV hw6 b4 b3 ht M5 M3 M4 (nI_add y0 0) fun I' r1 r2 r3 r4 r5 => h I' ⟨fun j => by rw [r1 103 (by decide)]; exact ha j, fun c x _ _ _ _ => r1 c x, fun j hj => r2 j (by omega) (by omega) (by omega), fun j _ => by rw [r1 105 (by decide)], fun j _ => by rw [r1 108 (by decide)]⟩ ⟨?_, ?_, ?_, r4, r5, fun _ => ⟨?_, fun j hj => ?_⟩⟩
        · rw [r2 15 (by decide) (by decide) (by decide), M1]
          simp [nz_lf, y, show ¬ w0 < w by omega, c2]
        · rw [r3]
          simp [nz_lf, y, show ¬ w0 < w by omega, c2]
        · rw [r2 18 (by decide) (by decide) (by decide)]; exact M3
        · rw [r2 17 (by decide) (by decide) (by decide)]; exact M6.1
        · rw [r1 109 (by decide)]
          simp [nz_lf, y, show ¬ w0 < w by omega]
          exact M6.2 j hj
      · refine q_Md_pl82 (t1 := nI y0) (t2 := 1) (ways := y0 + 1) ha hV hw6 b4 b3 ht M5 M3 M4 (nI_add y0 1) fun I' r1 r2 r3 r4 r5 => h I' ⟨fun j => by rw [r1 103 (by decide)]; exact ha j, fun c x _ _ _ _ => r1 c x, fun j hj => r2 j (by omega) (by omega) (by omega), fun j _ => by rw [r1 105 (by decide)], fun j _ => by rw [r1 108 (by decide)]⟩ ⟨?_, ?_, ?_, r4, r5, fun _ => ⟨?_, fun j hj => ?_⟩⟩
        · rw [r2 15 (by decide) (by decide) (by decide), M1]
          simp [nz_lf, y, c2]
        · rw [r3]
          simp [nz_lf, y, c2]
        · rw [r2 18 (by decide) (by decide) (by decide)]; exact M3
        · rw [r2 17 (by decide) (by decide) (by decide)]; exact M6.1
        · rw [r1 109 (by decide)]
          simp [nz_lf, y, c2]
          exact M6.2 j hj
  · have up : y0 = 0 ∨ w0 < w := by
      rw [M1] at c
      by_cases y : y0 = 0
      · exact Or.inl y
      · rw [if_neg y, ny_le (by omega) (by omega)] at c
        exact Or.inr (by omega)
    have key : ∀ n j (I1 : ny_I), j + n = 4 → (∀ c, c ≠ 109 → c ≠ 102 → I1 c = I c) → (∀ i, i ≠ 15 → i ≠ 16 → i ≠ 17 → I1 102 i = I 102 i) → I1 102 15 = nI w → I1 102 16 = 0 → I1 102 17 = nI k → (∀ i, i < j → I1 109 i = I 108 i) → ny_g (d + 2) m_Md_plans 38 [(0, .ref 102), (3, .int (nI w)), (4, .int (nI told)), (5, .int (nI j))] [] Ln I1 (ny_r0 Ln Q0) := by
      intro n
      induction n with
      | zero =>
        intro j I1 hj g1 g2 g3 g4 g5 g6
        refine s_Md_plans_38 ⟨fun _ => ⟨fun q => absurd g3.symm q, fun _ => ?_⟩, fun q => absurd ?_ q⟩
        · rw [g4]
          refine q_Md_pl82 (t1 := 0) (t2 := 1) (ways := 1) (wn := wn) (few := few) (reach := reach) (fun j => by rw [g1 103 (by decide) (by decide)]; exact ha j) hV hw6 b4 b3 ht (by rw [g2 20 (by decide) (by decide) (by decide)]; exact M5) (by rw [g2 18 (by decide) (by decide) (by decide)]; exact M3) (by rw [g2 19 (by decide) (by decide) (by decide)]; exact M4) rfl fun I' r1 r2 r3 r4 r5 =>
            h I' ⟨fun j => by rw [r1 103 (by decide), g1 103 (by decide) (by decide)]; exact ha j, fun c x _ _ _ y => by rw [r1 c x, g1 c y x], fun j hj => by rw [r2 j (by omega) (by omega) (by omega), g2 j (by omega) (by omega) (by omega)], fun j _ => by rw [r1 105 (by decide), g1 105 (by decide) (by decide)], fun j _ => by rw [r1 108 (by decide), g1 108 (by decide) (by decide)]⟩ ⟨?_, ?_, ?_, r4, r5, fun _ => ⟨?_, fun i hi => ?_⟩⟩
          · rw [r2 15 (by decide) (by decide) (by decide), g3]
            simp [nz_lf, up]
          · rw [r3]
            simp [nz_lf, up]
          · rw [r2 18 (by decide) (by decide) (by decide), g2 18 (by decide) (by decide) (by decide)]; exact M3
          · rw [r2 17 (by decide) (by decide) (by decide)]; exact g5
          · rw [r1 109 (by decide), g6 i (by omega), hA i hi]
            simp [nz_lf, up]
        · rw [ny_lit, ny_le (by decide) (by omega)]; omega
      | succ n ih =>
        intro j I1 hj g1 g2 g3 g4 g5 g6
        refine s_Md_plans_38 ?_
        simp (disch := omega) only [ny_lit, nI_add, ny_mul, nI_clamp, ny_le, ny_lt, ny_eq, ny_div, ny_rem, ny_rem2, ny_inN, true_and]
        refine ⟨fun q => absurd q (by omega), fun _ => ih (j + 1) _ (by omega) (fun c x y => by rw [ny_upne _ x]; exact g1 c x y) (fun i x y z => by rw [ny_upne _ (by decide)]; exact g2 i x y z) (by rw [ny_upne _ (by decide)]; exact g3) (by rw [ny_upne _ (by decide)]; exact g4) (by rw [ny_upne _ (by decide)]; exact g5) fun i hi => ?_⟩
        rw [ny_upeq]
        unfold upd
        split
        · next e => rw [e, g1 108 (by decide) (by decide)]
        · exact g6 i (by omega)
    refine key 4 0 _ rfl (fun c x y => ?_) (fun i x y z => ?_) ?_ ?_ ?_ (fun i hi => absurd hi (by omega))
    · rw [ny_upne _ y, ny_upne _ y, ny_upne _ y]
    · simp (disch := omega) only [ny_uprd, if_neg]
    · simp (disch := omega) only [ny_uprd, if_neg, if_true, and_self]
    · simp (disch := omega) only [ny_uprd, if_neg, if_true, and_self]
    · simp (disch := omega) only [ny_uprd, if_true, and_self]
theorem q_Md_plans {wn : Nat} (hw6 : wn < 64) : ∀ (f : Nat) {k n w told W : Nat} {acts : Nat → Nat} {s : nz_ps} {a : ny_a} {I : ny_I} {Q0 : ny_I → Prop}, ny_Md I a → ny_V a → f = min (n - k) (a 2 - a 1) → k ≤ n → n ≤ 4 → w + 85 * f ≤ 340 → told + f ≤ 4 → nz_pb W s → W + 7 ^ f < 2 ^ 30 → nz_MP (k + f) I wn s → (∀ j, j < k → I 108 j = nI (acts j)) →
    (∀ I', nz_pf k I' I a → nz_MP (k + f) I' wn (nz_pl wn f a k w told acts s) → Q0 I') → ny_C0 (d + f + 5) m_Md_plans [.ref 102, .int (nI k), .int (nI n), .int (nI w), .int (nI told)] Ln I Q0 := by
  intro f
  induction f with
  | zero =>
    intro k n w told W acts s a I Q0 ha hV hf hk hn hw ht hs hW hM hA h
    have v := hV.1
    have leaf := q_Md_plLeaf (d := d + 3) (Ln := Ln) (Q0 := Q0) (acts := acts) ha hV hw6 (by omega) (by omega) (by omega) hs (by omega) hM hA h
    refine s_Md_plans_0 ?_
    simp (disch := omega) only [ny_lit, nI_add, ny_mul, nI_clamp, ny_le, ny_lt, ny_eq, ny_div, ny_rem, ny_rem2, ny_inN]
    refine ⟨fun _ => leaf, fun c => q_Md_isOver ha hV ?_⟩
    rw [if_pos (by omega)]
    exact ⟨fun q => absurd q (by decide), fun _ => leaf⟩
  | succ f ih =>
    intro k n w told W acts s a I Q0 ha hV hf hk hn hw ht hs hW hM hA h
    have v := hV.1
    have p7 : 7 ^ (f + 1) = 7 * 7 ^ f := by rw [Nat.pow_succ, Nat.mul_comm]
    refine s_Md_plans_0 ?_
    simp (disch := omega) only [ny_lit, nI_add, ny_mul, nI_clamp, ny_le, ny_lt, ny_eq, ny_div, ny_rem, ny_rem2, ny_inN]
    refine ⟨fun c => absurd c (by omega), fun _ => q_Md_isOver ha hV ?_⟩
    rw [if_neg (by omega)]
    refine ⟨fun _ => q_Md_laysAside ha (by omega) fun I1 ha1 hA1 => ?_, fun q => absurd rfl q⟩
    have key : ∀ m o (s : nz_ps) (W : Nat) (I2 : ny_I), o + m = a 0 + 1 → nz_pb W s → W + m * 7 ^ f < 2 ^ 30 → nz_pf k I2 I a → (∀ j, j < 38 → I2 105 (38 * k + j) = nI (a j)) → nz_MP (k + (f + 1)) I2 wn s →
        (∀ I', nz_pf k I' I a → nz_MP (k + (f + 1)) I' wn (nz_lp (fun act s => nz_pl wn f (ny_goa a act) (k + 1) (w + ny_gow a act) (if act = 0 then told else told + 1) (fun j => if j = k then act else acts j) s) o m s) → Q0 I') →
        ny_g (d + f + 6) m_Md_plans 146 [(0, .ref 102), (1, .int (nI k)), (2, .int (nI n)), (3, .int (nI w)), (4, .int (nI told)), (5, .int (nI o))] [] Ln I2 (ny_r0 Ln Q0) := by
      intro m
      induction m with
      | zero =>
        intro o s W I2 ho hs hW hF hB hM hN
        rw [nz_lp] at hN
        refine s_Md_plans_146 ?_
        simp (disch := omega) only [ny_lit, nI_add, ny_mul, nI_clamp, ny_le, ny_lt, ny_eq, ny_div, ny_rem, ny_rem2, ny_inN, hF.1 _, true_and]
        exact ⟨fun _ => hN I2 hF hM, fun q => absurd q (by omega)⟩
      | succ m ihm =>
        intro o s W I2 ho hs hW hF hB hM hN
        rw [nz_lp] at hN
        rw [Nat.succ_mul] at hW
        have g := nz_go hV (act := o) (by omega) (by omega)
        have g2 := nz_Sm0 g.2.2.1
        refine s_Md_plans_146 ?_
        simp (disch := omega) only [ny_lit, nI_add, ny_mul, nI_clamp, ny_le, ny_lt, ny_eq, ny_div, ny_rem, ny_rem2, ny_inN, hF.1 _, true_and]
        refine ⟨fun q => absurd q (by omega), fun _ => q_Md_goesWith (d := d + f + 1) (a := a) (fun j => by rw [ny_upne _ (by decide)]; exact hF.1 j) hV (by omega) fun I3 h3 h3o => ?_⟩
        have h3' : ∀ c, c ≠ 103 → c ≠ 108 → I3 c = I2 c := fun c x y => by rw [h3o c x, ny_upne _ y]
        have h38 : ∀ j, I3 108 j = if j = k then nI o else I2 108 j := fun j => by
          rw [h3o 108 (by decide), ny_upeq]; rfl
        -- behind it: the plans from the next bell on
        have nxt : ∀ t, t ≤ told + 1 → t = (if o = 0 then told else told + 1) → ny_g (d + f + 6) m_Md_plans 196 [(0, .ref 102), (1, .int (nI k)), (2, .int (nI n)), (3, .int (nI w)), (4, .int (nI told)), (5, .int (nI o))] [.int (nI t), .int (nI (w + ny_gow a o)), .int (nI n), .int (nI (k + 1)), .ref 102] Ln I3 (ny_r0 Ln Q0) := by
          intro t ht1 et
          have hw2 : w + ny_gow a o + 85 * f ≤ 340 := by omega
          refine s_Md_plans_196 (ih (W := W) (acts := fun j => if j = k then o else acts j) (s := s) h3 g.2.1 (by omega) (by omega) hn hw2 (by omega) hs (by omega) ?_ (fun j hj => ?_) fun I4 hF4 hM4 => ?_)
          · rw [show k + 1 + f = k + (f + 1) by omega]
            exact nz_MP_mv (h3' 102 (by decide) (by decide)) (h3' 109 (by decide) (by decide)) hM
          · rw [h38]
            by_cases e : j = k
            · rw [if_pos e]; simp [e]
            · rw [if_neg e, hF.2.2.2.2 j (by omega), hA j (by omega)]; simp [e]
          · rw [show k + 1 + f = k + (f + 1) by omega] at hM4
            have hB4 : ∀ j, j < 38 → I4 105 (38 * k + j) = nI (a j) := fun j hj => by
              rw [hF4.2.2.2.1 _ (by omega), h3' 105 (by decide) (by decide)]; exact hB j hj
            refine q_Md_laysBack (I0 := I4) (a := a) hF4.1 (by omega) g2.2.2 ⟨fun _ _ _ => rfl, hB4, fun _ _ => rfl⟩ fun I5 hA5 h105 => ?_
            have hc : ∀ c, c ≠ 103 → I5 c = I4 c := fun c x => by
              by_cases y : c = 105
              · subst y; funext j; exact h105 j
              · exact hA5.2.1 c x y
            rw [ny_lit, nI_add]
            refine ihm (o + 1) _ (W + 7 ^ f) I5 (by omega) (nz_pl_b wn f g.2.1 (by omega) hw2 (by omega) hs) (by omega) ⟨hA5.1, fun c x1 x2 x3 x4 x5 => ?_, fun j hj => ?_, fun j hj => ?_, fun j hj => ?_⟩ (fun j hj => by rw [h105]; exact hB4 j hj) ?_ hN
            · rw [hc c x2, hF4.2.1 c x1 x2 x3 x4 x5, h3' c x2 x4]; exact hF.2.1 c x1 x2 x3 x4 x5
            · rw [hc 102 (by decide), hF4.2.2.1 j hj, h3' 102 (by decide) (by decide)]; exact hF.2.2.1 j hj
            · rw [hc 105 (by decide), hF4.2.2.2.1 j (by omega), h3' 105 (by decide) (by decide)]; exact hF.2.2.2.1 j hj
            · rw [hc 108 (by decide), hF4.2.2.2.2 j (by omega), h38, if_neg (by omega)]; exact hF.2.2.2.2 j hj
            · rw [← et]
              exact nz_MP_mv (hc 102 (by decide)) (hc 109 (by decide)) hM4
        refine ⟨fun c => ?_, fun c => ?_⟩
        · rw [nI_add w]; exact nxt (told + 1) (by omega) (if_neg c).symm
        · rw [nI_add w]; exact nxt told (by omega) (if_pos c).symm
    refine key (a 0 + 1) 0 s W I1 (by omega) hs ?_ ⟨ha1, fun c _ x y _ _ => hA1.1 c x y, fun j _ => by rw [hA1.1 102 (by decide) (by decide)], fun j hj => hA1.2.2 j (by omega), fun j _ => by rw [hA1.1 108 (by decide) (by decide)]⟩ hA1.2.1 (nz_MP_mv (hA1.1 102 (by decide) (by decide)) (hA1.1 109 (by decide) (by decide)) hM) h
    have := Nat.mul_le_mul_right (7 ^ f) (show a 0 + 1 ≤ 7 by omega)
    omega
theorem q_Md_findsPlans {n wn : Nat} (ha : ny_Md I a) (hV : ny_V a) (hn : n ≤ 4) (hw6 : wn < 64) (h : ∀ I', nz_pf 0 I' I a → nz_MP (min n (a 2 - a 1)) I' wn (nz_pln a n wn) → Q0 I') : ny_C0 (d + 10) m_Md_findsPlans [.ref 102, .int (nI n), .int (nI wn)] Ln I Q0 := by
  have hf4 : min n (a 2 - a 1) ≤ 4 := by omega
  have h7 : 7 ^ min n (a 2 - a 1) ≤ 7 ^ 4 := Nat.pow_le_pow_right (by decide) hf4
  refine s_Md_findsPlans_0 ?_
  have := q_Md_plans (d := d + 4 - min n (a 2 - a 1)) (Ln := Ln) (Q0 := Q0) hw6 (min n (a 2 - a 1)) (k := 0) (n := n) (w := 0) (told := 0) (W := 0) (acts := fun _ => 0) (s := (0, 0, fun _ => 0, 9, 0)) (a := a) (I := (ny_up (ny_up (ny_up (ny_up (ny_up (ny_up I 102 15 (-1)) 102 16 0) 102 17 0) 102 18 (nI wn)) 102 19 9) 102 20 0))
    (fun j => by simp (disch := omega) only [ny_uprd, if_neg]; exact ha j) hV rfl (by omega) hn (by omega) (by omega) ⟨by decide, by decide, by decide, by decide⟩ (by omega) ?_ (fun j hj => absurd hj (by omega)) fun I' hF hM => h I' ⟨hF.1, fun c x1 x2 x3 x4 x5 => ?_, fun j hj => ?_, fun j hj => absurd hj (by omega), fun j hj => absurd hj (by omega)⟩ ?_
  · rw [show d + 4 - min n (a 2 - a 1) + min n (a 2 - a 1) + 5 = d + 9 by omega] at this
    exact this
  · refine ⟨?_, ?_, ?_, ?_, ?_, fun q => absurd rfl q⟩
    · simp (disch := omega) only [ny_uprd, if_neg, if_true, and_self]; exact ny_m1
    · simp (disch := omega) only [ny_uprd, if_neg, if_true, and_self]; rfl
    · simp (disch := omega) only [ny_uprd, if_neg, if_true, and_self]
    · simp (disch := omega) only [ny_uprd, if_neg, if_true, and_self]; rfl
    · simp (disch := omega) only [ny_uprd, if_neg, if_true, and_self]; rfl
  · rw [hF.2.1 c x1 x2 x3 x4 x5, ny_upne _ x1, ny_upne _ x1, ny_upne _ x1, ny_upne _ x1, ny_upne _ x1, ny_upne _ x1]
  · rw [hF.2.2.1 j hj]
    simp (disch := omega) only [ny_uprd, if_neg]
  · rw [Nat.zero_add] at hM; exact hM
end NZPL
