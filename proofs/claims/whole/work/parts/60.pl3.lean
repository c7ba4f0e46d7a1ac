/-! the class: plans -/
def nz_CP (L : Nat) (I : ny_I) (wn : Nat) (s : nz_ps) : Prop := I 67 2 = nI wn ∧ I 67 3 = nI L ∧ I 67 4 = nI s.1 ∧ I 67 5 = nI s.2.1 ∧ I 67 7 = (if s.2.2.2.1 = 9 then nI 4294967293 else nI s.2.2.2.1) ∧ I 67 8 = nI s.2.2.2.2 ∧
  (s.2.1 ≠ 0 → ∀ j, j < L → I 70 j = nI (s.2.2.1 j))
theorem nz_CP_mv {L : Nat} {I I' : ny_I} {wn : Nat} {s : nz_ps} (h2 : I' 67 = I 67) (h9 : I' 70 = I 70) (h : nz_CP L I wn s) : nz_CP L I' wn s := by
  unfold nz_CP
  rw [h2, h9]; exact h
/-- what the class's plans change from the k-th bell on -/
def nz_qf (k : Nat) (I' I : ny_I) : Prop := (∀ q, q ≠ 22 → q ≠ 67 → q ≠ 69 → q ≠ 70 → ¬ (73 + 2 * k ≤ q ∧ q ≤ 80) → I' q = I q) ∧ (∀ j, 5 ≤ j → I' 22 j = I 22 j) ∧ (∀ j, j = 9 → I' 67 j = I 67 j) ∧ ∀ j, j < k → I' 69 j = I 69 j
theorem nz_mk5 {k : Nat} (h : k < 5) : ny_mc (71 + 2 * k) := by
  unfold ny_mc; omega
theorem nz_Ba_q {I I' : ny_I} {a a' : ny_a} (e : ∀ q, q = 1 ∨ q = 6 ∨ (9 ≤ q ∧ q ≤ 21) → I' q = I q) (e2 : ∀ j, 5 ≤ j → I' 22 j = I 22 j) (hs : ny_Sm a' a) (hV : ny_V a) (h : ny_Ba I a) : ny_Ba I' a' := by
  have ea : ∀ j, j ≠ 1 → j ≠ 3 → (j < 9 ∨ 38 ≤ j) → a' j = a j := fun j a1 a3 h => hs j a1 a3 fun k hk => by omega
  have e8 : ∀ k, k < 6 → a' (8 + 5 * k) = a (8 + 5 * k) ∧ a' (10 + 5 * k) = a (10 + 5 * k) ∧ a' (11 + 5 * k) = a (11 + 5 * k) := fun k hk =>
    ⟨hs _ (by omega) (by omega) fun q hq => by omega, hs _ (by omega) (by omega) fun q hq => by omega, hs _ (by omega) (by omega) fun q hq => by omega⟩
  have v := hV.1
  obtain ⟨⟨h1, h2⟩, h3, h4, h5, ⟨h6, h7⟩, h8, h9, h10⟩ := h
  unfold ny_Ba
  rw [e 6 (by omega), e 9 (by omega), e 10 (by omega), e 11 (by omega), e 12 (by omega), e 13 (by omega), e 14 (by omega), e 15 (by omega), e 16 (by omega), e 17 (by omega), e 18 (by omega), e 19 (by omega), e 20 (by omega), e 21 (by omega), e 1 (by omega),
    ea 0 (by omega) (by omega) (by omega), ea 2 (by omega) (by omega) (by omega), ea 5 (by omega) (by omega) (by omega), ea 7 (by omega) (by omega) (by omega)]
  refine ⟨⟨h1, h2⟩, fun k hk => ?_, fun f hf => ?_, fun b hb => ?_, ⟨h6, h7⟩, fun r hr => ?_, fun i hi => ?_, h10⟩
  · obtain ⟨q1, q2, q3⟩ := e8 k (by omega)
    rw [q1, q2, q3]; exact h3 k hk
  · rw [ea _ (by omega) (by omega) (by omega), ea _ (by omega) (by omega) (by omega)]; exact h4 f hf
  · rw [ea _ (by omega) (by omega) (by omega)]; exact h5 b hb
  · rw [ea _ (by omega) (by omega) (by omega), ea _ (by omega) (by omega) (by omega), ea _ (by omega) (by omega) (by omega)]; exact h8 r hr
  · rw [ea _ (by omega) (by omega) (by omega), ea _ (by omega) (by omega) (by omega), ea _ (by omega) (by omega) (by omega)]
    obtain ⟨g1, g2⟩ := h9 i hi
    exact ⟨g1, fun q => ⟨nz_vr_mv e2 (g2 q).1, nz_vr_mv e2 (g2 q).2⟩⟩
theorem nz_Mo_q {I I' : ny_I} {a : ny_a} {c : Nat} (h1 : I' c = I c) (h2 : I' (c + 1) = I (c + 1)) (h : ny_Mo I c a) : ny_Mo I' c a := by
  unfold ny_Mo
  rw [h1, h2]; exact h
section NZPC
variable {d Ln : Nat} {I : ny_I} {Q : Int32 → ny_I → Prop} {Q0 : ny_I → Prop} {a : ny_a}
theorem q_Mo_bec {k : Nat} (hk : k < 4) (hM : ny_Mo I (71 + 2 * k) a) (h0 : a 0 ≤ 6) (h : ∀ I', nz_fr (71 + 2 * (k + 1)) I' I → ny_Mo I' (71 + 2 * (k + 1)) a → Q0 I') : ny_C0 d m_Mo_become [.ref (71 + 2 * (k + 1)), .ref (71 + 2 * k)] Ln I Q0 := by
  have : k = 0 ∨ k = 1 ∨ k = 2 ∨ k = 3 := by omega
  rcases this with rfl | rfl | rfl | rfl
  · exact s_Mo_become_73_71_0 (by
      have := nz_become (c := 73) (s := 71) (by unfold ny_mc; omega) (by unfold ny_mc; omega) hM rfl (by decide) h0
      exact h _ this.1 this.2)
  · exact s_Mo_become_75_73_0 (by
      have := nz_become (c := 75) (s := 73) (by unfold ny_mc; omega) (by unfold ny_mc; omega) hM rfl (by decide) h0
      exact h _ this.1 this.2)
  · exact s_Mo_become_77_75_0 (by
      have := nz_become (c := 77) (s := 75) (by unfold ny_mc; omega) (by unfold ny_mc; omega) hM rfl (by decide) h0
      exact h _ this.1 this.2)
  · exact s_Mo_become_79_77_0 (by
      have := nz_become (c := 79) (s := 77) (by unfold ny_mc; omega) (by unfold ny_mc; omega) hM rfl (by decide) h0
      exact h _ this.1 this.2)
theorem q_Mo_bec0 (hM : ny_Mo I 7 a) (h0 : a 0 ≤ 6) (h : ∀ I', nz_fr 71 I' I → ny_Mo I' 71 a → Q0 I') : ny_C0 d m_Mo_become [.ref 71, .ref 7] Ln I Q0 :=
  s_Mo_become_71_7_0 (by
    have := nz_become (c := 71) (s := 7) (by unfold ny_mc; omega) (by unfold ny_mc; omega) hM rfl (by decide) h0
    exact h _ this.1 this.2)
theorem q_Pl_start {n : Nat} (hB : ny_Ba I a) (hM : ny_Mo I 7 a) (hV : ny_V a) (hn : n ≤ 4) (h : ∀ I', nz_fr 71 I' (ny_up I 67 3 (nI (min n (a 2 - a 1)))) → ny_Mo I' 71 a → Q0 I') : ny_C0 (d + 1) m_Pl_start [.ref 67, .ref 6, .int (nI n)] Ln I Q0 := by
  have v := hV.1
  refine s_Pl_start_0 ⟨rfl, ?_⟩
  have e1 : (if (4 : Int32) < nI n then (4 : Int32) else nI n) = nI n := if_neg (by rw [ny_lit, ny_lt (by decide) (by omega)]; omega)
  have e2 : (if I 6 8 - I 7 2 < nI n then I 6 8 - I 7 2 else nI n) = nI (min n (a 2 - a 1)) := by
    rw [hB.1.2, hM.1, pk_sub v.2.1, ny_min (by omega) (by omega), Nat.min_comm]
  have e3 : (if (0 : Int32) < nI (min n (a 2 - a 1)) then nI (min n (a 2 - a 1)) else 0) = nI (min n (a 2 - a 1)) := by
    by_cases c : 0 < min n (a 2 - a 1)
    · exact if_pos ((ny_lt (a := 0) (by decide) (by omega)).mpr c)
    · rw [show min n (a 2 - a 1) = 0 by omega]; rfl
  rw [e1, e2, e3]
  refine s_Pl_start_a33 (Or.inl rfl) (q_Mo_bec0 ?_ v.1 h)
  exact nz_Mo_q (ny_upne _ (by decide) _ _) (ny_upne _ (by decide) _ _) hM
theorem q_Pl_noteWorth {k w told wn W now : Nat} {acts : Nat → Nat} {s : nz_ps} (hk : k ≤ 4) (hw : w ≤ 340) (hs : nz_pb W s) (hW : W < 2 ^ 30) (hM : nz_CP k I wn s) (hA : ∀ j, j < k → I 69 j = nI (acts j))
    (h : ∀ I', (∀ q, q ≠ 67 → q ≠ 70 → I' q = I q) → (∀ j, j ≠ 4 → j ≠ 5 → I' 67 j = I 67 j) → I' 67 4 = nI (nz_lf wn w told acts now s).1 → I' 67 5 = nI (nz_lf wn w told acts now s).2.1 → (∀ j, j < k → I' 70 j = nI ((nz_lf wn w told acts now s).2.2.1 j)) → Q0 I') : ny_C0 d m_Pl_noteWorth [.ref 67, .int (nI w)] Ln I Q0 := by
  obtain ⟨w0, y0, f0, few, reach⟩ := s
  obtain ⟨b1, b2, b3, b4⟩ := hs
  obtain ⟨M1, M2, M3, M4, M5, M6, M7⟩ := hM
  dsimp only at b1 b2 b3 b4 M1 M2 M3 M4 M5 M6 M7
  have up : (y0 = 0 ∨ w0 < w) → ny_g d m_Pl_noteWorth 15 [(0, .ref 67), (1, .int (nI w))] [] Ln I (ny_r0 Ln Q0) := by
    intro c
    refine s_Pl_noteWorth_15 (h _ (fun q x y => ?_) (fun j x y => ?_) ?_ ?_ fun j hj => ?_)
    · show (if q = 70 then _ else ny_up (ny_up I 67 4 (nI w)) 67 5 1 q) = I q
      rw [if_neg y, ny_upne _ x, ny_upne _ x]
    · show (if 67 = 70 then _ else ny_up (ny_up I 67 4 (nI w)) 67 5 1 67) j = _
      rw [if_neg (by decide)]
      simp (disch := omega) only [ny_uprd, if_neg]
    · show (if 67 = 70 then _ else ny_up (ny_up I 67 4 (nI w)) 67 5 1 67) 4 = _
      rw [if_neg (by decide)]
      simp (disch := omega) only [ny_uprd, if_neg, if_true, and_self]
      simp [nz_lf, c]
    · show (if 67 = 70 then _ else ny_up (ny_up I 67 4 (nI w)) 67 5 1 67) 5 = _
      rw [if_neg (by decide)]
      simp (disch := omega) only [ny_uprd, if_true, and_self]
      simp [nz_lf, c]; rfl
    · show (if 70 = 70 then va_cpy (ny_up (ny_up I 67 4 (nI w)) 67 5 1 69) (ny_up (ny_up I 67 4 (nI w)) 67 5 1 70) 0 0 4 else _) j = _
      rw [if_pos rfl, pk_cpy_in (by omega) (by omega), ny_upne _ (by decide), ny_upne _ (by decide), show 0 + (j - 0) = j by omega, hA j hj]
      simp [nz_lf, c]
  refine s_Pl_noteWorth_0 ?_
  rw [M3, M4]
  simp (disch := omega) only [ny_lit, nI_add, ny_mul, nI_clamp, ny_le, ny_lt, ny_eq, ny_div, ny_rem, ny_rem2, ny_inN]
  refine ⟨fun c => up (Or.inl c), fun c => ⟨fun c2 => ⟨fun c3 => ?_, fun c3 => ?_⟩, fun c2 => up (Or.inr (by omega))⟩⟩
  · refine h I (fun _ _ _ => rfl) (fun _ _ _ => rfl) ?_ ?_ fun j hj => ?_
    · rw [M3]; simp [nz_lf, c, show ¬ w0 < w by omega]
    · rw [M4]; simp [nz_lf, c, show ¬ w0 < w by omega, c3]
    · rw [M7 c j hj]; simp [nz_lf, c, show ¬ w0 < w by omega]
  · refine h _ (fun q x _ => ny_upne _ x _ _) (fun j _ y => ?_) ?_ ?_ fun j hj => ?_
    · simp (disch := omega) only [ny_uprd, if_neg]
    · simp (disch := omega) only [ny_uprd, if_neg]
      rw [M3]; simp [nz_lf, c, show ¬ w0 < w by omega]
    · simp (disch := omega) only [ny_uprd, if_true, and_self]
      simp [nz_lf, c, c3]
    · rw [ny_upne _ (by decide), M7 c j hj]; simp [nz_lf, c, show ¬ w0 < w by omega]
theorem q_Pl_noteRelieved {told wn few reach now : Nat} (hw : wn < 64) (hr : reach < 64) (hn : now < 64) (hf : few ≤ 9) (ht : told ≤ 4) (e2 : I 67 2 = nI wn) (e7 : I 67 7 = (if few = 9 then nI 4294967293 else nI few)) (e8 : I 67 8 = nI reach)
    (h : ∀ I', (∀ q, q ≠ 67 → I' q = I q) → (∀ j, j ≠ 7 → j ≠ 8 → I' 67 j = I 67 j) → I' 67 7 = (if (if wn &&& (63 - now) = 0 ∧ told < few then told else few) = 9 then nI 4294967293 else nI (if wn &&& (63 - now) = 0 ∧ told < few then told else few)) → I' 67 8 = nI (reach ||| now) → Q0 I') : ny_C0 d m_Pl_noteRelieved [.ref 67, .int (nI now), .int (nI told)] Ln I Q0 := by
  refine s_Pl_noteRelieved_0 ?_
  obtain ⟨d1, d2, -⟩ := nz_dif wn hw now hn
  obtain ⟨o1, o2⟩ := nz_or2 reach hr now hn
  simp (disch := omega) only [ny_uprd, if_neg, e2, e8, if_true, and_self]
  rw [d1, o1]
  generalize wn &&& (63 - now) = m at *
  simp (disch := omega) only [ny_lit, nI_add, ny_mul, nI_clamp, ny_le, ny_lt, ny_eq, ny_div, ny_rem, ny_rem2, ny_inN]
  -- three ends
  have keep : (if m = 0 ∧ told < few then told else few) = few → Q0 (ny_up I 67 8 (nI (reach ||| now))) := by
    intro e
    refine h _ (fun q x => ny_upne _ x _ _) (fun j _ y => ?_) ?_ ?_
    · simp (disch := omega) only [ny_uprd, if_neg]
    · simp (disch := omega) only [ny_uprd, if_neg]
      rw [e]; exact e7
    · simp (disch := omega) only [ny_uprd, if_true, and_self]
  have take : (if m = 0 ∧ told < few then told else few) = told → Q0 (ny_up (ny_up I 67 8 (nI (reach ||| now))) 67 7 (nI told)) := by
    intro e
    refine h _ (fun q x => by rw [ny_upne _ x, ny_upne _ x]) (fun j x y => ?_) ?_ ?_
    · simp (disch := omega) only [ny_uprd, if_neg]
    · simp (disch := omega) only [ny_uprd, if_true, and_self]
      rw [e, if_neg (by omega)]
    · simp (disch := omega) only [ny_uprd, if_neg, if_true, and_self]
  refine ⟨fun c => keep (if_neg (by omega)), fun c => ?_⟩
  rw [e7]
  by_cases f9 : few = 9
  · rw [if_pos f9]
    exact ⟨fun _ => take (if_pos ⟨c, by omega⟩), fun q => absurd (show nI 4294967293 = -nI 3 from ny_m3.symm) q⟩
  · rw [if_neg f9]
    refine ⟨fun q => absurd (show nI few = nI 4294967293 from q.trans ny_m3) (nz_nm3 (by omega)), fun _ => ?_⟩
    rw [ny_le (by omega) (by omega)]
    exact ⟨fun c2 => keep (if_neg (by omega)), fun c2 => take (if_pos ⟨c, by omega⟩)⟩
theorem q_Pl_leaf {k w told wn W : Nat} {acts : Nat → Nat} {s : nz_ps} (hM7 : ny_Mo I (71 + 2 * k) a) (hV : ny_V a) (hw6 : wn < 64) (hk : k ≤ 4) (hw : w ≤ 340) (ht : told ≤ 4) (hs : nz_pb W s) (hW : W < 2 ^ 30) (hM : nz_CP k I wn s) (hA : ∀ j, j < k → I 69 j = nI (acts j))
    (h : ∀ I', nz_qf k I' I → nz_CP k I' wn (nz_lf wn w told acts (nz_msk (nz_L a)) s) → Q0 I') : ny_g (d + 1) m_Pl_tryFrom 13 [(0, .ref 67), (3, .int (nI w)), (4, .int (nI told))] [] Ln I (ny_r0 Ln Q0) := by
  refine s_Pl_tryFrom_13 (q_Pl_noteWorth (told := told) (now := nz_msk (nz_L a)) hk hw hs hW hM hA fun I1 h1 h2 h3 h4 h5 => ?_)
  obtain ⟨M1, M2, M3, M4, M5, M6, M7⟩ := hM
  have e3 : I1 67 3 = nI k := by rw [h2 3 (by decide) (by decide)]; exact M2
  rw [e3]
  simp (disch := omega) only [ny_lit, nI_add, ny_mul, nI_clamp, ny_le, ny_lt, ny_eq, ny_div, ny_rem, ny_rem2, ny_inN, true_and]
  refine s_Pl_tryFrom_a27 (by omega) ?_
  obtain ⟨m1, m2, m, m3, m4, m5⟩ := hM7
  have e1 : I1 (71 + 2 * k) 1 = nI (nz_msk (nz_L a)) := by
    rw [h1 _ (by omega) (by omega), m4, nz_msk_e (s := nz_L a) ⟨m3, fun q hq => m5 q hq⟩]
  rw [e1]
  refine q_Pl_noteRelieved hw6 hs.2.2.2 (nz_msk_k (nz_L a)).1 hs.2.2.1 ht (by rw [h2 2 (by decide) (by decide)]; exact M1) (by rw [h2 7 (by decide) (by decide)]; exact M5) (by rw [h2 8 (by decide) (by decide)]; exact M6) fun I2 r1 r2 r3 r4 => h I2 ⟨fun q x y z w _ => ?_, fun j _ => ?_, fun j hj => ?_, fun j _ => ?_⟩ ⟨?_, ?_, ?_, ?_, r3, r4, fun _ j hj => ?_⟩
  · rw [r1 q y, h1 q y w]
  · rw [r1 22 (by decide), h1 22 (by decide) (by decide)]
  · rw [r2 j (by omega) (by omega), h2 j (by omega) (by omega)]
  · rw [r1 69 (by decide), h1 69 (by decide) (by decide)]
  · rw [r2 2 (by decide) (by decide), h2 2 (by decide) (by decide)]; exact M1
  · rw [r2 3 (by decide) (by decide)]; exact e3
  · rw [r2 4 (by decide) (by decide)]; exact h3
  · rw [r2 5 (by decide) (by decide)]; exact h4
  · rw [r1 70 (by decide)]; exact h5 j hj
theorem q_Pl_tryFrom {wn : Nat} (hw6 : wn < 64) : ∀ (f : Nat) {k w told W : Nat} {acts : Nat → Nat} {s : nz_ps} {a : ny_a} {I : ny_I} {Q0 : ny_I → Prop}, ny_Ba I a → ny_Mo I (71 + 2 * k) a → ny_V a → k + f ≤ 4 → a 1 + f ≤ a 2 → w + 85 * f ≤ 340 → told + f ≤ 4 → nz_pb W s → W + 7 ^ f < 2 ^ 30 → nz_CP (k + f) I wn s → (∀ j, j < k → I 69 j = nI (acts j)) →
    (∀ I', nz_qf k I' I → nz_CP (k + f) I' wn (nz_pl wn f a k w told acts s) → Q0 I') → ny_C0 (d + f + 5) m_Pl_tryFrom [.ref 67, .ref 6, .int (nI k), .int (nI w), .int (nI told)] Ln I Q0 := by
  intro f
  induction f with
  | zero =>
    intro k w told W acts s a I Q0 hB hMo hV hk4 hb hw ht hs hW hM hA h
    have leaf := q_Pl_leaf (d := d + 4) (Ln := Ln) (Q0 := Q0) (acts := acts) hMo hV hw6 (by omega) (by omega) (by omega) hs (by omega) hM hA h
    refine s_Pl_tryFrom_0 ?_
    rw [hM.2.1]
    simp (disch := omega) only [ny_lit, nI_add, ny_mul, nI_clamp, ny_le, ny_lt, ny_eq, ny_div, ny_rem, ny_rem2, ny_inN]
    exact ⟨fun _ => leaf, fun c => absurd c (by omega)⟩
  | succ f ih =>
    intro k w told W acts s a I Q0 hB hMo hV hk4 hb hw ht hs hW hM hA h
    have v := hV.1
    have p7 : 7 ^ (f + 1) = 7 * 7 ^ f := by rw [Nat.pow_succ, Nat.mul_comm]
    refine s_Pl_tryFrom_0 ?_
    rw [hM.2.1]
    simp (disch := omega) only [ny_lit, nI_add, ny_mul, nI_clamp, ny_le, ny_lt, ny_eq, ny_div, ny_rem, ny_rem2, ny_inN]
    refine ⟨fun c => absurd c (by omega), fun _ => ⟨fun _ => ?_, fun c => absurd c (by omega)⟩⟩
    have key : ∀ m o (s : nz_ps) (W : Nat) (I2 : ny_I), o + m = a 0 + 1 → nz_pb W s → W + m * 7 ^ f < 2 ^ 30 → nz_qf k I2 I → nz_CP (k + (f + 1)) I2 wn s →
        (∀ I', nz_qf k I' I → nz_CP (k + (f + 1)) I' wn (nz_lp (fun act s => nz_pl wn f (ny_goa a act) (k + 1) (w + ny_gow a act) (if act = 0 then told else told + 1) (fun j => if j = k then act else acts j) s) o m s) → Q0 I') →
        ny_g (d + f + 6) m_Pl_tryFrom 40 [(0, .ref 67), (1, .ref 6), (2, .int (nI k)), (3, .int (nI w)), (4, .int (nI told)), (5, .int (nI o))] [] Ln I2 (ny_r0 Ln Q0) := by
      intro m
      induction m with
      | zero =>
        intro o s W I2 ho hs hW hF hM hN
        rw [nz_lp] at hN
        refine s_Pl_tryFrom_40 ?_
        rw [hF.1 6 (by decide) (by decide) (by decide) (by decide) (by omega), hB.1.1]
        simp (disch := omega) only [ny_lit, nI_add, ny_mul, nI_clamp, ny_le, ny_lt, ny_eq, ny_div, ny_rem, ny_rem2, ny_inN]
        exact ⟨fun _ => hN I2 hF hM, fun q => absurd q (by omega)⟩
      | succ m ihm =>
        intro o s W I2 ho hs hW hF hM hN
        rw [nz_lp] at hN
        rw [Nat.succ_mul] at hW
        have g := nz_go hV (act := o) (by omega) (by omega)
        have g2 := nz_Sm0 g.2.2.1
        have nb : ∀ q, q = 1 ∨ q = 6 ∨ (9 ≤ q ∧ q ≤ 21) → q ≠ 22 ∧ q ≠ 67 ∧ q ≠ 69 ∧ q ≠ 70 ∧ ¬ (73 + 2 * k ≤ q ∧ q ≤ 80) := fun q hq => by omega
        refine s_Pl_tryFrom_40 ?_
        rw [hF.1 6 (by decide) (by decide) (by decide) (by decide) (by omega), hB.1.1]
        simp (disch := omega) only [ny_lit, nI_add, ny_mul, nI_clamp, ny_le, ny_lt, ny_eq, ny_div, ny_rem, ny_rem2, ny_inN, true_and]
        refine ⟨fun q => absurd q (by omega), fun _ => s_Pl_tryFrom_a64 (by omega) ?_⟩
        simp (disch := omega) only [ny_lit, nI_add, ny_mul, nI_clamp, ny_le, ny_lt, ny_eq, ny_div, ny_rem, ny_rem2, ny_inN, true_and]
        have hMo2 : ny_Mo (ny_up I2 69 k (nI o)) (71 + 2 * k) a := nz_Mo_q (by rw [ny_upne _ (by omega)]; exact hF.1 _ (by omega) (by omega) (by omega) (by omega) (by omega)) (by rw [ny_upne _ (by omega)]; exact hF.1 _ (by omega) (by omega) (by omega) (by omega) (by omega)) hMo
        refine s_Pl_tryFrom_a74 (by omega) (by omega) (q_Mo_bec (by omega) hMo2 v.1 fun I3 hF3 hM3 => s_Pl_tryFrom_78 (by omega) ?_)
        have hB3 : ny_Ba I3 a := nz_Ba_q (fun q hq => by
          obtain ⟨n1, n2, n3, n4, n5⟩ := nb q hq
          rw [hF3.1 q n1 (by omega) (by omega), ny_upne _ n3]; exact hF.1 q n1 n2 n3 n4 n5) (fun j hj => by rw [hF3.2 j hj, ny_upne _ (by decide)]; exact hF.2.1 j hj) (fun _ _ _ _ => rfl) hV hB
        refine q_Ba_goBy (d := d + f + 2) (nz_mk5 (by omega)) hB3 hM3 hV (by omega) fun I4 hF4 hM4 => ?_
        have hB4 : ny_Ba I4 (ny_goa a o) := nz_Ba_mv (nz_mk5 (by omega)) hF4 g.2.2.1 hV hB3
        -- cells behind the bell
        have e4 : ∀ q, q ≠ 22 → q ≠ 69 → ¬ (73 + 2 * k ≤ q ∧ q ≤ 80) → I4 q = I2 q := fun q x y z => by
          rw [hF4.1 q x (by omega) (by omega), hF3.1 q x (by omega) (by omega), ny_upne _ y]
        have e22 : ∀ j, 5 ≤ j → I4 22 j = I2 22 j := fun j hj => by rw [hF4.2 j hj, hF3.2 j hj, ny_upne _ (by decide)]
        have e69 : ∀ j, I4 69 j = if j = k then nI o else I2 69 j := fun j => by
          rw [hF4.1 69 (by decide) (by omega) (by omega), hF3.1 69 (by decide) (by omega) (by omega), ny_upeq]; rfl
        have nxt : ∀ t, t ≤ told + 1 → t = (if o = 0 then told else told + 1) → ny_g (d + f + 6) m_Pl_tryFrom 111 [(0, .ref 67), (1, .ref 6), (2, .int (nI k)), (3, .int (nI w)), (4, .int (nI told)), (5, .int (nI o))] [.int (nI t), .int (nI (w + ny_gow a o)), .int (nI (k + 1)), .ref 6, .ref 67] Ln I4 (ny_r0 Ln Q0) := by
          intro t ht1 et
          have hw2 : w + ny_gow a o + 85 * f ≤ 340 := by omega
          refine s_Pl_tryFrom_111 (ih (W := W) (acts := fun j => if j = k then o else acts j) (s := s) hB4 hM4 g.2.1 (by omega) (by omega) hw2 (by omega) hs (by omega) ?_ (fun j hj => ?_) fun I5 hF5 hM5 => ?_)
          · rw [show k + 1 + f = k + (f + 1) by omega]
            exact nz_CP_mv (e4 67 (by decide) (by decide) (by omega)) (e4 70 (by decide) (by decide) (by omega)) hM
          · rw [e69]
            by_cases e : j = k
            · rw [if_pos e]; simp [e]
            · rw [if_neg e, hF.2.2.2 j (by omega), hA j (by omega)]; simp [e]
          · rw [show k + 1 + f = k + (f + 1) by omega] at hM5
            rw [ny_lit, nI_add]
            refine ihm (o + 1) _ (W + 7 ^ f) I5 (by omega) (nz_pl_b wn f g.2.1 (by omega) hw2 (by omega) hs) (by omega) ⟨fun q x1 x2 x3 x4 x5 => ?_, fun j hj => ?_, fun j hj => ?_, fun j hj => ?_⟩ ?_ hN
            · rw [hF5.1 q x1 x2 x3 x4 (by omega), e4 q x1 x3 x5]; exact hF.1 q x1 x2 x3 x4 x5
            · rw [hF5.2.1 j hj, e22 j hj]; exact hF.2.1 j hj
            · rw [hF5.2.2.1 j hj, e4 67 (by decide) (by decide) (by omega)]; exact hF.2.2.1 j hj
            · rw [hF5.2.2.2 j (by omega), e69, if_neg (by omega)]; exact hF.2.2.2 j hj
            · rw [← et]; exact hM5
        simp (disch := omega) only [ny_lit, nI_add, ny_mul, nI_clamp, ny_le, ny_lt, ny_eq, ny_div, ny_rem, ny_rem2, ny_inN]
        refine ⟨fun c => ?_, fun c => ?_⟩
        · exact nxt (told + 1) (by omega) (if_neg c).symm
        · exact nxt told (by omega) (if_pos c).symm
    refine key (a 0 + 1) 0 s W I (by omega) hs ?_ ⟨fun _ _ _ _ _ _ => rfl, fun _ _ => rfl, fun _ _ => rfl, fun _ _ => rfl⟩ hM h
    have := Nat.mul_le_mul_right (7 ^ f) (show a 0 + 1 ≤ 7 by omega)
    omega
/-- what a look at plans changes of the class -/
def nz_cp (I' I : ny_I) (a : ny_a) : Prop := ny_Cl I' a ∧ ∀ q, (q < 6 ∨ (30 ≤ q ∧ q < 67) ∨ 80 < q) → I' q = I q
theorem nz_Cl_q {I' : ny_I} (hC : ny_Cl I a) (hV : ny_V a) (e : ∀ q, q ≤ 27 → q ≠ 22 → I' q = I q) (e2 : ∀ j, 5 ≤ j → I' 22 j = I 22 j) : ny_Cl I' a := by
  refine ⟨nz_Ba_q (fun q hq => e q (by omega) (by omega)) e2 (fun _ _ _ _ => rfl) hV hC.1, nz_Mo_q (e 7 (by decide) (by decide)) (e 8 (by decide) (by decide)) hC.2.1, ?_, ?_⟩
  · rw [e 6 (by decide) (by decide)]; exact hC.2.2.1
  · unfold ny_Re
    rw [e 23 (by decide) (by decide), e 24 (by decide) (by decide), e 25 (by decide) (by decide), e 26 (by decide) (by decide), e 27 (by decide) (by decide)]
    exact hC.2.2.2
theorem q_Pl_tryAll {n wn : Nat} (hC : ny_Cl I a) (hV : ny_V a) (hn : n ≤ 4) (hw6 : wn < 64) (h : ∀ I', nz_cp I' I a → nz_CP (min n (a 2 - a 1)) I' wn (nz_pln a n wn) → Q0 I') : ny_C0 (d + 10) m_Pl_tryAll [.ref 67, .ref 6, .int (nI n), .int (nI wn)] Ln I Q0 := by
  have v := hV.1
  have hf4 : min n (a 2 - a 1) ≤ 4 := by omega
  have h7 : 7 ^ min n (a 2 - a 1) ≤ 7 ^ 4 := Nat.pow_le_pow_right (by decide) hf4
  refine s_Pl_tryAll_0 (q_Pl_start (d := d + 8) hC.1 hC.2.1 hV hn fun I1 hF1 hM1 => ?_)
  have e1 : ∀ q, q ≠ 22 → q ≠ 67 → q ≠ 71 → q ≠ 72 → I1 q = I q := fun q x y z w => by rw [hF1.1 q x z w, ny_upne _ y]
  have e67 : I1 67 3 = nI (min n (a 2 - a 1)) := by
    rw [hF1.1 67 (by decide) (by decide) (by decide)]
    simp (disch := omega) only [ny_uprd, if_true, and_self]
  have u : ∀ q, q ≠ 67 → (ny_up (ny_up (ny_up (ny_up (ny_up I1 67 2 (nI wn)) 67 4 0) 67 5 0) 67 7 (-3)) 67 8 0) q = I1 q := fun q x => by
    rw [ny_upne _ x, ny_upne _ x, ny_upne _ x, ny_upne _ x, ny_upne _ x]
  have := q_Pl_tryFrom (d := d + 4 - min n (a 2 - a 1)) (Ln := Ln) (Q0 := Q0) hw6 (min n (a 2 - a 1)) (k := 0) (w := 0) (told := 0) (W := 0) (acts := fun _ => 0) (s := (0, 0, fun _ => 0, 9, 0)) (a := a) (I := (ny_up (ny_up (ny_up (ny_up (ny_up I1 67 2 (nI wn)) 67 4 0) 67 5 0) 67 7 (-3)) 67 8 0))
    (nz_Ba_q (fun q hq => by rw [u q (by omega), e1 q (by omega) (by omega) (by omega) (by omega)]) (fun j hj => by rw [u 22 (by decide), hF1.2 j hj, ny_upne _ (by decide)]) (fun _ _ _ _ => rfl) hV hC.1) (nz_Mo_q (u 71 (by decide)) (u 72 (by decide)) hM1) hV (by omega) (by omega) (by omega) (by omega) ⟨by decide, by decide, by decide, by decide⟩ (by omega) ?_ (fun j hj => absurd hj (by omega)) fun I' hF hM => h I' ⟨nz_Cl_q hC hV (fun q x y => ?_) (fun j hj => ?_), fun q hq => ?_⟩ ?_
  · rw [show d + 4 - min n (a 2 - a 1) + min n (a 2 - a 1) + 5 = d + 9 by omega] at this
    exact this
  · refine ⟨?_, ?_, ?_, ?_, ?_, ?_, fun q => absurd rfl q⟩
    · simp (disch := omega) only [ny_uprd, if_neg, if_true, and_self]
    · simp (disch := omega) only [ny_uprd, if_neg]
      rw [Nat.zero_add]; exact e67
    · simp (disch := omega) only [ny_uprd, if_neg, if_true, and_self]; rfl
    · simp (disch := omega) only [ny_uprd, if_neg, if_true, and_self]; rfl
    · simp (disch := omega) only [ny_uprd, if_neg, if_true, and_self]; exact ny_m3
    · simp (disch := omega) only [ny_uprd, if_neg, if_true, and_self]; rfl
  · rw [hF.1 q y (by omega) (by omega) (by omega) (by omega), u q (by omega), e1 q y (by omega) (by omega) (by omega)]
  · rw [hF.2.1 j hj, u 22 (by decide), hF1.2 j hj, ny_upne _ (by decide)]
  · rw [hF.1 q (by omega) (by omega) (by omega) (by omega) (by omega), u q (by omega), e1 q (by omega) (by omega) (by omega) (by omega)]
  · rw [Nat.zero_add] at hM; exact hM
end NZPC
