/-! the class: lone nymphs, the liar -/
def nz_bd (a : ny_a) (b t sh : Nat) : nz_st := fun r => decide (r < a 6) && (decide (a (98 + 4 * r) = b) && !(decide (a (100 + 4 * r) ≤ (if a (99 + 4 * r) = 0 then t else sh)) && decide ((if a (99 + 4 * r) = 0 then t else sh) ≤ a (101 + 4 * r))))
def nz_wrs (a : ny_a) (kind grace t0 : Nat) : nz_st := fun r => decide (r < a 6) && nz_wr a kind grace t0 r
/-- only what the search has found changes -/
def nz_rf (I' I : ny_I) : Prop := (∀ q, q ≠ 23 → I' q = I q) ∧ ∀ j, j < 5 → I' 23 j = I 23 j
def nz_CR (I : ny_I) (s : (Nat × Nat) × Nat) : Prop := I 23 5 = nI s.1.1 ∧ (0 < s.1.1 → I 23 6 = nI (s.1.2 / 100) ∧ I 23 7 = nI (s.1.2 / 10 % 10) ∧ I 23 8 = nI (s.1.2 % 10 * 10)) ∧ I 23 9 = if s.2 = 6 then nI 4294967293 else nI s.2
theorem nz_Ba_rf {I I' : ny_I} {a : ny_a} (hF : nz_rf I' I) (hV : ny_V a) (h : ny_Ba I a) : ny_Ba I' a := nz_Ba_q (fun q hq => hF.1 q (by omega)) (fun j _ => by rw [hF.1 22 (by decide)]) (fun _ _ _ _ => rfl) hV h
theorem nz_Re_rf {I I' : ny_I} {a : ny_a} (hF : nz_rf I' I) (h : ny_Re I a) : ny_Re I' a := by
  refine ⟨by rw [hF.2 0 (by decide)]; exact h.1, fun r hr => ?_⟩
  rw [hF.1 24 (by decide), hF.1 25 (by decide), hF.1 26 (by decide), hF.1 27 (by decide)]
  exact h.2 r hr
theorem nz_rf_r (I : ny_I) : nz_rf I I := ⟨fun _ _ => rfl, fun _ _ => rfl⟩
theorem nz_rf_t {I1 I2 I3 : ny_I} (h : nz_rf I1 I2) (h2 : nz_rf I2 I3) : nz_rf I1 I3 := ⟨fun q x => (h.1 q x).trans (h2.1 q x), fun j x => (h.2 j x).trans (h2.2 j x)⟩
section NZRS
variable {d Ln : Nat} {I : ny_I} {Q : Int32 → ny_I → Prop} {Q0 : ny_I → Prop} {a : ny_a}
theorem q_Re_wrongBehind {b t sh : Nat} (hR : ny_Re I a) (hV : ny_V a) (hb : b < 16) (ht : t ≤ 99) (hsh : sh ≤ 999) (h : ∀ m, nz_mk m (nz_bd a b t sh) → Q (nI m) I) : ny_C1 d m_Re_wrongBehind [.ref 23, .int (nI b), .int (nI t), .int (nI sh)] Ln I Q := by
  have v := hV.1
  have V7 := hV.2.2.2.2.2.2.1
  have key : ∀ n r m, r + n = a 6 → nz_mk m (fun q => decide (q < r) && nz_bd a b t sh q) → ny_g d m_Re_wrongBehind 6 [(0, .ref 23), (1, .int (nI b)), (2, .int (nI t)), (3, .int (nI sh)), (4, .int (nI m)), (5, .int (nI r))] [] Ln I (ny_r1 Ln Q) := by
    intro n
    induction n with
    | zero =>
      intro r m hr hm
      refine s_Re_wrongBehind_6 ?_
      rw [hR.1]
      simp (disch := omega) only [ny_lit, nI_add, ny_mul, nI_clamp, ny_le, ny_lt, ny_eq, ny_div, ny_rem, ny_rem2, ny_inN]
      refine ⟨fun _ => h m ?_, fun q => absurd q (by omega)⟩
      have e : (fun q => decide (q < r) && nz_bd a b t sh q) = nz_bd a b t sh := by
        funext q
        rw [show r = a 6 by omega]
        unfold nz_bd
        cases decide (q < a 6) <;> rfl
      rw [e] at hm
      exact hm
    | succ n ih =>
      intro r m hr hm
      have hr6 : r < 6 := by omega
      have ms := nz_mk_s hm hr6
      obtain ⟨w1, w2, w3, w4⟩ := V7 r (by omega)
      obtain ⟨r1, r2, r3, r4⟩ := hR.2 r (by omega)
      have h30 : ∀ v, v ≤ 999 → v = (if a (99 + 4 * r) = 0 then t else sh) → ny_g d m_Re_wrongBehind 30 [(0, .ref 23), (1, .int (nI b)), (2, .int (nI t)), (3, .int (nI sh)), (4, .int (nI m)), (5, .int (nI r))] [.int (nI v)] Ln I (ny_r1 Ln Q) := by
        intro v hv ev
        have eb : nz_bd a b t sh r = (decide (a (98 + 4 * r) = b) && !(decide (a (100 + 4 * r) ≤ v) && decide (v ≤ a (101 + 4 * r)))) := by
          unfold nz_bd
          rw [← ev, decide_eq_true (by omega), Bool.true_and]
        have b2 : nI m ||| nI 1 <<< (nI r &&& nI 31) = nI (m ||| 2 ^ r) := nz_bon m hm.1 r hr6
        refine s_Re_wrongBehind_30 ?_
        simp (disch := omega) only [ny_lit, nI_add, ny_mul, nI_clamp, ny_le, ny_lt, ny_eq, ny_div, ny_rem, ny_rem2, ny_inN, true_and, r1, r3, r4, b2]
        refine ⟨fun c => ih (r + 1) m (by omega) (ms.2 (by rw [eb, decide_eq_false c]; rfl)), fun c => ⟨fun c2 => ih (r + 1) _ (by omega) (ms.1 ?_), fun c2 => ⟨fun c3 => ih (r + 1) m (by omega) (ms.2 ?_), fun c3 => ih (r + 1) _ (by omega) (ms.1 ?_)⟩⟩⟩
        · rw [eb, decide_eq_true c, decide_eq_false (by omega)]; rfl
        · rw [eb, decide_eq_true c, decide_eq_true (by omega), decide_eq_true (by omega)]; rfl
        · rw [eb, decide_eq_true c, decide_eq_true (by omega), decide_eq_false (by omega)]; rfl
      refine s_Re_wrongBehind_6 ?_
      rw [hR.1]
      simp (disch := omega) only [ny_lit, nI_add, ny_mul, nI_clamp, ny_le, ny_lt, ny_eq, ny_div, ny_rem, ny_rem2, ny_inN, true_and, r2]
      exact ⟨fun q => absurd q (by omega), fun _ => ⟨fun c => h30 sh hsh (if_neg c).symm, fun c => h30 t (by omega) (if_pos c).symm⟩⟩
  exact s_Re_wrongBehind_0 (key (a 6) 0 0 (by omega) ⟨by decide, fun q hq => by simp⟩)
theorem q_Re_wrongBy {kind grace t0 : Nat} (hB : ny_Ba I a) (hR : ny_Re I a) (hV : ny_V a) (hk1 : 1 ≤ kind) (hk : kind ≤ 5) (hg : grace ≤ 9) (ht : t0 ≤ 99) (h : ∀ m, nz_mk m (nz_wrs a kind grace t0) → Q (nI m) I) : ny_C1 (d + 2) m_Re_wrongBy [.ref 23, .ref 6, .int (nI kind), .int (nI grace), .int (nI t0)] Ln I Q := by
  have v := hV.1
  have V7 := hV.2.2.2.2.2.2.1
  have key : ∀ n k m, k + n = 16 → nz_mk m (fun r => decide (r < a 6) && (decide (a (98 + 4 * r) < k) && nz_wr a kind grace t0 r)) → ny_g (d + 2) m_Re_wrongBy 13 [(0, .ref 23), (1, .ref 6), (2, .int (nI kind)), (3, .int (nI grace)), (5, .int (nI m)), (6, .int (nI (nz_td a kind t0 k))), (7, .int (nI (nz_sn a kind grace t0 k))), (8, .int (nI k))] [] Ln I (ny_r1 Ln Q) := by
    intro n
    induction n with
    | zero =>
      intro k m hkn hm
      refine s_Re_wrongBy_13 ?_
      simp (disch := omega) only [ny_lit, nI_add, ny_mul, nI_clamp, ny_le, ny_lt, ny_eq, ny_div, ny_rem, ny_rem2, ny_inN]
      refine ⟨fun _ => h m ?_, fun q => absurd q (by omega)⟩
      have e : (fun r => decide (r < a 6) && (decide (a (98 + 4 * r) < k) && nz_wr a kind grace t0 r)) = nz_wrs a kind grace t0 := by
        funext r
        unfold nz_wrs
        by_cases c : r < a 6
        · have := (V7 r c).1
          rw [decide_eq_true (show a (98 + 4 * r) < k by omega), Bool.true_and]
        · rw [decide_eq_false c]; rfl
      rw [e] at hm
      exact hm
    | succ n ih =>
      intro k m hkn hm
      have V5 := hV.2.2.2.2.1 k (by omega)
      have wb := ny_wear_le (kind := kind) (bell := k) (w := a (50 + k)) (by omega) V5
      have tb := nz_td_b (a := a) (kind := kind) ht k
      have sb := nz_sn_b (a := a) (kind := kind) (t0 := t0) hg k
      have shb := ny_shw_le (kind := kind) (grace := grace) (number := 0) (w := a (50 + k)) hg (by decide)
      have eW : nz_W a k = a (50 + k) := if_pos (by omega)
      have e1 : nz_td a kind t0 (k + 1) = min 99 (nz_td a kind t0 k + ny_wear kind k (a (50 + k))) := rfl
      have e2 : nz_sn a kind grace t0 (k + 1) = nz_sn a kind grace t0 k + (if nz_td a kind t0 k < 60 then ny_shw kind grace 0 (a (50 + k)) else 0) := rfl
      refine s_Re_wrongBy_13 ?_
      simp (disch := omega) only [ny_lit, nI_add, ny_mul, nI_clamp, ny_le, ny_lt, ny_eq, ny_div, ny_rem, ny_rem2, ny_inN]
      refine ⟨fun q => absurd q (by omega), fun _ => q_Re_wrongBehind hR hV (by omega) tb (by omega) fun w hw => ?_⟩
      obtain ⟨o1, o2⟩ := nz_or2 m hm.1 w hw.1
      rw [o1]
      have h59 : ny_g (d + 2) m_Re_wrongBy 59 [(0, .ref 23), (1, .ref 6), (2, .int (nI kind)), (3, .int (nI grace)), (5, .int (nI (m ||| w))), (6, .int (nI (nz_td a kind t0 k))), (7, .int (nI (nz_sn a kind grace t0 (k + 1)))), (8, .int (nI k))] [] Ln I (ny_r1 Ln Q) := by
        refine s_Re_wrongBy_59 (q_Ba_sunOf (d := d) hB hV (by omega) ?_)
        rw [eW]
        refine q_Ki_wearies hk1 hk (by omega) (by omega) ?_
        rw [nI_add, ny_lit, ny_lit, nI_add, ny_min (by omega) (by decide), Nat.min_comm]
        rw [show OfNat.ofNat 99 = 99 from rfl, ← e1]
        refine ih (k + 1) _ (by omega) ⟨o2, fun r hr => ?_⟩
        rw [Nat.testBit_or, hm.2 r hr, hw.2 r hr]
        unfold nz_bd
        dsimp only
        by_cases c : r < a 6
        · rw [decide_eq_true c, Bool.true_and, Bool.true_and, Bool.true_and]
          by_cases c2 : a (98 + 4 * r) = k
          · rw [decide_eq_true c2, decide_eq_false (show ¬ a (98 + 4 * r) < k by omega), decide_eq_true (show a (98 + 4 * r) < k + 1 by omega), Bool.false_and, Bool.false_or, Bool.true_and, Bool.true_and]
            unfold nz_wr
            rw [c2]
          · rw [decide_eq_false c2, Bool.false_and, Bool.or_false]
            have : decide (a (98 + 4 * r) < k + 1) = decide (a (98 + 4 * r) < k) := by rw [decide_eq_decide]; omega
            rw [this]
        · rw [decide_eq_false c]; rfl
      refine ⟨fun c => ?_, fun c => q_Ba_guestsOf (d := d) hB hV (by omega) ?_⟩
      · rw [e2, if_neg (by omega), Nat.add_zero] at h59
        exact h59
      · rw [eW]
        refine q_Ki_shows (number := 0) hk1 hk (by omega) (by omega) (by omega) ?_
        rw [nI_add]
        rw [e2, if_pos (by omega)] at h59
        exact h59
  refine s_Re_wrongBy_0 (key 16 0 0 rfl ⟨by decide, fun r hr => ?_⟩)
  simp
theorem q_Re_tryOne {k : Nat} {s : (Nat × Nat) × Nat} (hB : ny_Ba I a) (hR : ny_Re I a) (hV : ny_V a) (hk1 : 100 ≤ k) (hk : k < 600) (hC : nz_CR I s) (hs : s.1.1 ≤ 500) (hl : s.2 ≤ 6) (h : ∀ I', nz_rf I' I → nz_CR I' (nz_cs1 a k s) → Q0 I') : ny_C0 (d + 3) m_Re_tryOne [.ref 23, .ref 6, .int (nI (k / 100)), .int (nI (k / 10 % 10)), .int (nI (k % 10 * 10))] Ln I Q0 := by
  have v := hV.1
  have m1 : k / 10 % 10 < 10 := Nat.mod_lt _ (by decide)
  have m2 : k % 10 < 10 := Nat.mod_lt _ (by decide)
  refine s_Re_tryOne_0 (q_Re_wrongBy (d := d) hB hR hV (by omega) (by omega) (by omega) (by omega) fun m hm => ?_)
  have em : m = nz_msk (nz_ws a k) := nz_msk_e hm
  have hf : nz_fit a nz_none k = true ↔ m = 0 := by rw [em]; exact nz_fit_n v.2.2.2.2.2.1
  -- the liars
  have key : ∀ (s1 : Nat × Nat), s1 = nz_fs1 a nz_none k s.1 → ∀ n r l (I1 : ny_I), r + n = a 6 → l ≤ 6 → nz_rf I1 I → nz_CR I1 (s1, l) → nz_lp (fun r l => if m = 2 ^ r ∧ r < l then r else l) r n l = nz_lr a m s.2 → ny_g (d + 3) m_Re_tryOne 52 [(0, .ref 23), (5, .int (nI m)), (6, .int (nI r))] [] Ln I1 (ny_r0 Ln Q0) := by
    intro s1 es n
    induction n with
    | zero =>
      intro r l I1 hr hl hF hC1 e
      have h6 : I1 23 0 = nI (a 6) := by rw [hF.2 0 (by decide)]; exact hR.1
      refine s_Re_tryOne_52 ?_
      rw [h6]
      simp (disch := omega) only [ny_lit, nI_add, ny_mul, nI_clamp, ny_le, ny_lt, ny_eq, ny_div, ny_rem, ny_rem2, ny_inN]
      refine ⟨fun _ => h I1 hF ?_, fun q => absurd q (by omega)⟩
      rw [nz_lp] at e
      rw [es, e, em] at hC1
      exact hC1
    | succ n ih =>
      intro r l I1 hr hl hF hC1 e
      rw [nz_lp] at e
      have hr6 : r < 6 := by omega
      have h6 : I1 23 0 = nI (a 6) := by rw [hF.2 0 (by decide)]; exact hR.1
      have p := nz_2k r hr6
      have ho : nI 1 <<< (nI r &&& nI 31) = nI (2 ^ r) := nz_one r hr6
      have take : m = 2 ^ r → r < l → ny_g (d + 3) m_Re_tryOne 52 [(0, .ref 23), (5, .int (nI m)), (6, .int (nI (r + 1)))] [] Ln (ny_up I1 23 9 (nI r)) (ny_r0 Ln Q0) := by
        intro c1 c2
        rw [if_pos ⟨c1, c2⟩] at e
        refine ih (r + 1) r _ (by omega) (by omega) ⟨fun q x => by rw [ny_upne _ x]; exact hF.1 q x, fun j hj => ?_⟩ ⟨?_, fun q => ?_, ?_⟩ e
        · simp (disch := omega) only [ny_uprd, if_neg]; exact hF.2 j hj
        · simp (disch := omega) only [ny_uprd, if_neg]; exact hC1.1
        · simp (disch := omega) only [ny_uprd, if_neg]; exact hC1.2.1 q
        · simp (disch := omega) only [ny_uprd, if_true, and_self]
          rw [if_neg (show ¬ r = 6 by omega)]
      have skip : ¬ (m = 2 ^ r ∧ r < l) → ny_g (d + 3) m_Re_tryOne 52 [(0, .ref 23), (5, .int (nI m)), (6, .int (nI (r + 1)))] [] Ln I1 (ny_r0 Ln Q0) := by
        intro c
        rw [if_neg c] at e
        exact ih (r + 1) l I1 (by omega) hl hF hC1 e
      have hm6 := hm.1
      refine s_Re_tryOne_52 ?_
      rw [h6, hC1.2.2]
      simp (disch := omega) only [ny_lit, nI_add, ny_mul, nI_clamp, ny_le, ny_lt, ny_eq, ny_div, ny_rem, ny_rem2, ny_inN, ho]
      refine ⟨fun q => absurd q (by omega), fun _ => ⟨fun c => skip (fun q => c q.1), fun c => ?_⟩⟩
      by_cases l6 : l = 6
      · rw [if_pos l6]
        exact ⟨fun _ => take c (by omega), fun q => absurd (show nI 4294967293 = -nI 3 from ny_m3.symm) q⟩
      · rw [if_neg l6]
        refine ⟨fun q => absurd (show nI l = nI 4294967293 from q.trans ny_m3) (nz_nm3 (by omega)), fun _ => ?_⟩
        rw [ny_le (by omega) (by omega)]
        exact ⟨fun c2 => skip (fun q => by omega), fun c2 => take c (by omega)⟩
  have hm6 := hm.1
  obtain ⟨c1, c2, c3⟩ := hC
  rw [c1]
  simp (disch := omega) only [ny_uprd, if_neg, c1]
  simp (disch := omega) only [ny_lit, nI_add, ny_eq]
  refine ⟨fun z => ?_, fun z => ⟨fun y => ?_, fun y => ?_⟩⟩
  · have es : s.1 = nz_fs1 a nz_none k s.1 := (if_neg (fun q => z (hf.mp q))).symm
    exact key s.1 es (a 6) 0 s.2 I (by omega) hl (nz_rf_r I) ⟨c1, c2, c3⟩ rfl
  · have es : (s.1.1 + 1, if s.1.1 = 0 then k else s.1.2) = nz_fs1 a nz_none k s.1 := (if_pos (hf.mpr z)).symm
    refine key _ es (a 6) 0 s.2 _ (by omega) hl ⟨fun q x => ny_upne _ x _ _, fun j hj => ?_⟩ ⟨?_, fun _ => ?_, ?_⟩ rfl
    · simp (disch := omega) only [ny_uprd, if_neg]
    · simp (disch := omega) only [ny_uprd, if_true, and_self]
    · simp (disch := omega) only [ny_uprd, if_neg]
      exact c2 (by omega)
    · simp (disch := omega) only [ny_uprd, if_neg]; exact c3
  · have es : (s.1.1 + 1, if s.1.1 = 0 then k else s.1.2) = nz_fs1 a nz_none k s.1 := (if_pos (hf.mpr z)).symm
    refine key _ es (a 6) 0 s.2 _ (by omega) hl ⟨fun q x => by rw [ny_upne _ x, ny_upne _ x, ny_upne _ x, ny_upne _ x], fun j hj => ?_⟩ ⟨?_, fun _ => ?_, ?_⟩ rfl
    · simp (disch := omega) only [ny_uprd, if_neg]
    · simp (disch := omega) only [ny_uprd, if_true, and_self]
    · simp (disch := omega) only [ny_uprd, if_neg, if_true, and_self, if_pos]
    · simp (disch := omega) only [ny_uprd, if_neg]; exact c3
theorem nz_cN_b {k : Nat} (h6 : a 6 ≤ 6) (h1 : 100 ≤ k) (h2 : k ≤ 600) : (nz_cN a k).1.1 ≤ 500 ∧ (nz_cN a k).2 ≤ 6 := by
  constructor
  · unfold nz_cN
    rw [nz_cN_1]
    have := (nz_ff_b (a := a) (b := nz_none) (k - 100) 100 (0, 0)).1
    dsimp only at this ⊢
    omega
  · have := (nz_cN_l (a := a) h6 (k - 100)).1
    rw [show 100 + (k - 100) = k by omega] at this
    omega
theorem q_Re_tryAll (hB : ny_Ba I a) (hR : ny_Re I a) (hV : ny_V a) (h : ∀ I', nz_rf I' I → nz_CR I' (nz_cN a 600) → Q0 I') : ny_C0 (d + 4) m_Re_tryAll [.ref 23, .ref 6] Ln I Q0 := by
  have v := hV.1
  have k29 : ∀ (kind grace : Nat), 1 ≤ kind → kind ≤ 5 → grace ≤ 9 → (∀ I', nz_rf I' I → nz_CR I' (nz_cN a (100 * kind + 10 * (grace + 1))) → ny_g (d + 4) m_Re_tryAll 20 [(0, .ref 23), (1, .ref 6), (2, .int (nI kind)), (3, .int (nI (grace + 1)))] [] Ln I' (ny_r0 Ln Q0)) →
      ∀ n t (I1 : ny_I), t + n = 10 → nz_rf I1 I → nz_CR I1 (nz_cN a (100 * kind + 10 * grace + t)) → ny_g (d + 4) m_Re_tryAll 29 [(0, .ref 23), (1, .ref 6), (2, .int (nI kind)), (3, .int (nI grace)), (4, .int (nI (10 * t)))] [] Ln I1 (ny_r0 Ln Q0) := by
    intro kind grace hk1 hk hg hN n
    induction n with
    | zero =>
      intro t I1 ht hF hC
      refine s_Re_tryAll_29 ?_
      simp (disch := omega) only [ny_lit, nI_add, ny_mul, nI_clamp, ny_le, ny_lt, ny_eq, ny_div, ny_rem, ny_rem2, ny_inN]
      refine ⟨fun _ => hN I1 hF ?_, fun q => absurd q (by omega)⟩
      rw [show 100 * kind + 10 * (grace + 1) = 100 * kind + 10 * grace + t by omega]
      exact hC
    | succ n ih =>
      intro t I1 ht hF hC
      have b := nz_cN_b (a := a) (k := 100 * kind + 10 * grace + t) v.2.2.2.2.2.1 (by omega) (by omega)
      refine s_Re_tryAll_29 ?_
      simp (disch := omega) only [ny_lit, nI_add, ny_mul, nI_clamp, ny_le, ny_lt, ny_eq, ny_div, ny_rem, ny_rem2, ny_inN]
      refine ⟨fun q => absurd q (by omega), fun _ => ?_⟩
      have := q_Re_tryOne (d := d) (Ln := Ln) (Q0 := fun I' => ny_g (d + 4) m_Re_tryAll 29 [(0, .ref 23), (1, .ref 6), (2, .int (nI kind)), (3, .int (nI grace)), (4, .int (nI (10 * t + 10)))] [] Ln I' (ny_r0 Ln Q0)) (k := 100 * kind + 10 * grace + t) (nz_Ba_rf hF hV hB) (nz_Re_rf hF hR) hV (by omega) (by omega) hC b.1 b.2 fun I' hF' hC' => by
        rw [← nz_cN_s (by omega)] at hC'
        exact ih (t + 1) I' (by omega) (nz_rf_t hF' hF) hC'
      rw [show (100 * kind + 10 * grace + t) / 100 = kind by omega, show (100 * kind + 10 * grace + t) / 10 % 10 = grace by omega, show (100 * kind + 10 * grace + t) % 10 * 10 = 10 * t by omega] at this
      exact this
  have k20 : ∀ (kind : Nat), 1 ≤ kind → kind ≤ 5 → (∀ I', nz_rf I' I → nz_CR I' (nz_cN a (100 * (kind + 1))) → ny_g (d + 4) m_Re_tryAll 13 [(0, .ref 23), (1, .ref 6), (2, .int (nI (kind + 1)))] [] Ln I' (ny_r0 Ln Q0)) →
      ∀ n grace (I1 : ny_I), grace + n = 10 → nz_rf I1 I → nz_CR I1 (nz_cN a (100 * kind + 10 * grace)) → ny_g (d + 4) m_Re_tryAll 20 [(0, .ref 23), (1, .ref 6), (2, .int (nI kind)), (3, .int (nI grace))] [] Ln I1 (ny_r0 Ln Q0) := by
    intro kind hk1 hk hN n
    induction n with
    | zero =>
      intro grace I1 hg hF hC
      refine s_Re_tryAll_20 ?_
      simp (disch := omega) only [ny_lit, nI_add, ny_mul, nI_clamp, ny_le, ny_lt, ny_eq, ny_div, ny_rem, ny_rem2, ny_inN]
      refine ⟨fun _ => hN I1 hF ?_, fun q => absurd q (by omega)⟩
      rw [show 100 * (kind + 1) = 100 * kind + 10 * grace by omega]
      exact hC
    | succ n ih =>
      intro grace I1 hg hF hC
      refine s_Re_tryAll_20 ?_
      simp (disch := omega) only [ny_lit, nI_add, ny_mul, nI_clamp, ny_le, ny_lt, ny_eq, ny_div, ny_rem, ny_rem2, ny_inN]
      refine ⟨fun q => absurd q (by omega), fun _ => k29 kind grace hk1 hk (by omega) (fun I' hF' hC' => ih (grace + 1) I' (by omega) hF' hC') 10 0 I1 rfl hF hC⟩
  have k13 : ∀ n kind (I1 : ny_I), kind + n = 6 → 1 ≤ kind → nz_rf I1 I → nz_CR I1 (nz_cN a (100 * kind)) → ny_g (d + 4) m_Re_tryAll 13 [(0, .ref 23), (1, .ref 6), (2, .int (nI kind))] [] Ln I1 (ny_r0 Ln Q0) := by
    intro n
    induction n with
    | zero =>
      intro kind I1 hk hk1 hF hC
      refine s_Re_tryAll_13 ?_
      simp (disch := omega) only [ny_lit, nI_add, ny_mul, nI_clamp, ny_le, ny_lt, ny_eq, ny_div, ny_rem, ny_rem2, ny_inN]
      refine ⟨fun _ => h I1 hF ?_, fun q => absurd q (by omega)⟩
      rw [show 100 * kind = 600 by omega] at hC
      exact hC
    | succ n ih =>
      intro kind I1 hk hk1 hF hC
      refine s_Re_tryAll_13 ?_
      simp (disch := omega) only [ny_lit, nI_add, ny_mul, nI_clamp, ny_le, ny_lt, ny_eq, ny_div, ny_rem, ny_rem2, ny_inN]
      refine ⟨fun q => absurd q (by omega), fun _ => k20 kind hk1 (by omega) (fun I' hF' hC' => ih (kind + 1) I' (by omega) (by omega) hF' hC') 10 0 I1 rfl hF hC⟩
  refine s_Re_tryAll_0 (k13 5 1 _ rfl (by decide) ⟨fun q x => by rw [ny_upne _ x, ny_upne _ x], fun j hj => ?_⟩ ⟨?_, fun q => absurd q (Nat.lt_irrefl 0), ?_⟩)
  · simp (disch := omega) only [ny_uprd, if_neg]
  · simp (disch := omega) only [ny_uprd, if_neg, if_true, and_self]; rfl
  · simp (disch := omega) only [ny_uprd, if_true, and_self]
    exact ny_m3
theorem nz_cf_rf {I' : ny_I} (hC : ny_Cl I a) (hV : ny_V a) (hF : nz_rf I' I) : nz_cf I' I a := by
  refine ⟨⟨nz_Ba_rf hF hV hC.1, nz_Mo_q (hF.1 7 (by decide)) (hF.1 8 (by decide)) hC.2.1, ?_, nz_Re_rf hF hC.2.2.2⟩, fun q hq => hF.1 q (by omega)⟩
  rw [hF.1 6 (by decide)]; exact hC.2.2.1
theorem q_No_nymph {x : Int32} (hC : ny_Cl I a) (hV : ny_V a) (h : ∀ I', nz_cf I' I a → Q (o_nymph x a) I') : ny_C1 (d + 5) m_No_nymph [.ref 5, .int x] Ln I Q := by
  refine s_No_nymph_0 (q_No_I 0 3 rfl rfl (by decide) (by decide) (fun w ew _ hw ex => ⟨fun _ => ?_, fun q => absurd q (by decide)⟩) fun ew => ⟨fun q => absurd rfl q, fun _ => ?_⟩)
  · refine q_Re_tryAll hC.1 hC.2.2.2 hV fun I' hF hR => ?_
    have := h I' (nz_cf_rf hC hV hF)
    simp only [o_nymph, ew] at this
    obtain ⟨f1, f2⟩ := nz_ff_500 (a := a) (b := nz_none)
    obtain ⟨r1, r2, r3⟩ := hR
    rw [nz_cN_f] at r1 r2
    subst ex
    rw [r1]
    simp (disch := omega) only [ny_lit, nI_add, ny_mul, nI_clamp, ny_le, ny_lt, ny_eq, ny_div, ny_rem, ny_rem2, ny_inN]
    refine ⟨fun w0 => ⟨fun c => ⟨fun w1 => ⟨fun w2 => ?_, fun w2 => ?_⟩, fun w1 => ?_⟩, fun c => ?_⟩, fun w0 => ?_⟩
    · rw [if_neg w0, if_neg c, if_neg w1, if_neg w2] at this
      rw [(r2 (by omega)).2.2]; exact this
    · rw [if_neg w0, if_neg c, if_neg w1, if_pos w2] at this
      rw [(r2 (by omega)).2.1]; exact this
    · rw [if_neg w0, if_neg c, if_pos w1] at this
      rw [(r2 (by omega)).1]; exact this
    · rw [if_neg w0, if_pos c] at this
      rw [show -nI 3 = nI 4294967293 from ny_m3]; exact this
    · rw [if_pos w0] at this; exact this
  · simp only [o_nymph, ew] at h
    rw [ny_m1]; exact h I (nz_cf_r hC)
theorem q_No_liar (hC : ny_Cl I a) (hV : ny_V a) (h : ∀ I', nz_cf I' I a → Q (o_liar a) I') : ny_C1 (d + 5) m_No_liar [.ref 5] Ln I Q := by
  refine s_No_liar_0 (q_Re_tryAll hC.1 hC.2.2.2 hV fun I' hF hR => ?_)
  have := h I' (nz_cf_rf hC hV hF)
  obtain ⟨f1, f2⟩ := nz_ff_500 (a := a) (b := nz_none)
  obtain ⟨r1, r2, r3⟩ := hR
  rw [nz_cN_f] at r1
  unfold o_liar at this
  rw [r1, r3]
  simp (disch := omega) only [ny_lit, nI_add, ny_mul, nI_clamp, ny_le, ny_lt, ny_eq, ny_div, ny_rem, ny_rem2, ny_inN]
  refine ⟨fun c => ?_, fun c => ?_⟩
  · rw [if_neg c] at this
    rw [show -nI 3 = nI 4294967293 from ny_m3]; exact this
  · rw [if_pos c, nz_liar_eq hV.1.2.2.2.2.2.1 c] at this
    exact this
end NZRS
