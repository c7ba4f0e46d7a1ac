/-! both: acts from sheets -/
def nz_ga (s : nz_sh) (t : Nat) (y : Int32) : Nat → Nat → Nat → ny_a → Int32 × ny_a
  | 0, _, w, a => (nI w, a)
  | m + 1, k, w, a => match nz_bl (s.2.1 t) (y + nI k) with
    | none => (nI 4294967284, a)
    | some i => match nz_in 0 (a 0) (s.2.2 t i) with
      | none => nz_ga s t y m (k + 1) w a
      | some act => if a 2 ≤ a 1 then nz_ga s t y m (k + 1) w a else nz_ga s t y m (k + 1) (w + ny_gow a act) (ny_goa a act)
def nz_wb (s : nz_sh) (t : Nat) (y : Int32) : Nat → Nat → Nat → ny_a → Int32
  | 0, _, w, _ => nI w
  | m + 1, k, w, a => match nz_bl (s.2.1 t) (y + nI k) with
    | none => nI 4294967284
    | some i => match nz_in 0 (a 0) (s.2.2 t i) with
      | none => nI 4294967292
      | some act => if a 2 ≤ a 1 then nI 4294967292 else nz_wb s t y m (k + 1) (w + ny_gow a act) (ny_goa a act)
def o_goAll (x y z : Int32) (s : nz_sh) (a : ny_a) : Int32 × ny_a := match nz_in 0 3 x, nz_in 0 20 z with
  | some t, some n => if s.1 t = 5 then (nI 4294967285, a) else if s.1 t = 0 then nz_ga s t y n 0 0 a else (nI 4294967283, a)
  | _, _ => (nI 4294967295, a)
def o_wouldBe (x y z : Int32) (s : nz_sh) (a : ny_a) : Int32 := match nz_in 0 3 x, nz_in 0 20 z with
  | some t, some n => if s.1 t = 5 then nI 4294967285 else if s.1 t = 0 then nz_wb s t y n 0 0 a else nI 4294967283
  | _, _ => nI 4294967295
/-- a place that is told in two parts: whole in longs, wrapped in ints -/
theorem nz_lsum {y : Int32} {k : Nat} (hk : k < 64) : (y.toInt64 + (nI k).toInt64).toInt = y.toInt + k := by
  have h1 := Int32.toInt_lt y
  have h2 := Int32.le_toInt y
  rw [Int64.toInt_add, Int32.toInt_toInt64, Int32.toInt_toInt64, nI_toInt (by omega), Int.bmod_def, show ((2 ^ 64 : Nat) : Int) = 18446744073709551616 from rfl]
  split <;> omega
theorem nz_isum {y : Int32} {k m : Nat} (hk : k < 64) (hm : m < 64) : y.toInt + k = m ↔ y + nI k = nI m := by
  have h1 := Int32.toInt_lt y
  have h2 := Int32.le_toInt y
  rw [← Int32.toInt_inj, Int32.toInt_add, nI_toInt (by omega), nI_toInt (by omega), Int.bmod_def, show ((2 ^ 32 : Nat) : Int) = 4294967296 from rfl]
  split <;> constructor <;> intro h <;> omega
theorem nz_go0 {a : ny_a} {act : Nat} (hV : ny_V a) (h : act ≤ a 0) (hb : a 1 < a 2) : ny_V (ny_goa a act) ∧ ny_gow a act ≤ 85 := ⟨(nz_go hV h hb).2.1, (nz_go hV h hb).1⟩
section NZGO
variable {d Ln : Nat} {I : ny_I} {Q : Int32 → ny_I → Prop} {Q0 : ny_I → Prop} {a : ny_a} {s : nz_sh}
theorem q_Md_inS {y : Int32} {k n : Nat} {l z : Int64} (hk : k < 64) (hn : n ≤ 40) (hl : l = lN 0) (hz : z = (nI n).toInt64 - (1 : Int64)) (h1 : ∀ i, nz_bl n (y + nI k) = some i → i < n → y + nI k = nI i → Q (nI 1) I) (h0 : nz_bl n (y + nI k) = none → Q (nI 0) I) : ny_C1 d m_Md_isIn [.long (y.toInt64 + (nI k).toInt64), .long l, .long z] Ln I Q := by
  have ez : z.toInt = (n : Int) - 1 := by
    rw [hz, nI_l (by omega)]
    have : ∀ n, n ≤ 40 → (lN n - (1 : Int64)).toInt = (n : Int) - 1 := by decide +kernel
    exact this n hn
  have e0 : l.toInt = 0 := by rw [hl]; decide +kernel
  refine q_Md_isIn (fun c1 c2 => ?_) fun c => h0 (nz_bl_n (by omega) fun m hm e => c ?_)
  · rw [Int64.le_iff_toInt_le, e0, nz_lsum hk] at c1
    rw [Int64.le_iff_toInt_le, ez, nz_lsum hk] at c2
    obtain ⟨m, hm⟩ : ∃ m : Nat, y.toInt + k = m := ⟨(y.toInt + k).toNat, by omega⟩
    have := (nz_isum hk (by omega)).mp hm
    exact h1 m (nz_bl_s (by omega) (by omega) this) (by omega) this
  · have := (nz_isum hk (by omega)).mpr e
    rw [Int64.le_iff_toInt_le, Int64.le_iff_toInt_le, e0, ez, nz_lsum hk]
    omega
theorem q_Md_goAll {x y z : Int32} (ha : ny_Md I a) (hV : ny_V a) (hM : ny_SM I s) (hS : nz_SV s) (h : ∀ I', ny_Md I' (o_goAll x y z s a).2 → ny_V (o_goAll x y z s a).2 → (∀ c, c ≠ 103 → I' c = I c) → Q (o_goAll x y z s a).1 I') : ny_C1 (d + 5) m_Md_goAll [.ref 102, .int x, .int y, .int z] Ln I Q := by
  have no : ∀ v, o_goAll x y z s a = (v, a) → Q v I := fun v e => by
    rw [e] at h; exact h I ha hV (fun _ _ => rfl)
  refine s_Md_goAll_0 (q_Md_isSheet (d := d + 3) (fun t et ht ex => ⟨fun q => absurd q (by decide), fun _ => q_Md_I 0 20 rfl rfl (by decide) (by decide) (fun n en _ hn ez => ⟨fun _ => ?_, fun q => absurd q (by decide)⟩) (fun en => ⟨fun q => absurd rfl q, fun _ => ?_⟩)⟩) fun et => ⟨fun _ => ?_, fun q => absurd rfl q⟩)
  · subst ex ez
    have sv := hS t (by omega)
    refine q_Md_lacks (w := 0) hM hS (by omega) (by decide) ?_
    by_cases c : s.1 t = 5
    · rw [if_pos c]
      refine ⟨fun q => absurd q (by decide +kernel), fun _ => q_Md_lacks (w := 0) hM hS (by omega) (by decide) ?_⟩
      rw [if_pos c]
      exact no _ (by simp only [o_goAll, et, en, if_pos c])
    · rw [if_neg c]
      by_cases c2 : s.1 t = 0
      · rw [if_pos c2]
        refine ⟨fun _ => ?_, fun q => absurd rfl q⟩
        simp only [o_goAll, et, en, if_neg c, if_pos c2] at h
        have key : ∀ m k w (a' : ny_a) (I2 : ny_I), k + m = n → w ≤ 85 * k → ny_Md I2 a' → ny_V a' → (∀ c, c ≠ 103 → I2 c = I c) → nz_ga s t y m k w a' = nz_ga s t y n 0 0 a → ny_g (d + 5) m_Md_goAll 43 [(0, .ref 102), (1, .int (nI t)), (2, .int y), (3, .int (nI n)), (4, .int (nI w)), (5, .int (nI k))] [] Ln I2 (ny_r1 Ln Q) := by
          intro m
          induction m with
          | zero =>
            intro k w a' I2 hk hw hM2 hV' hc e
            rw [← e] at h
            refine s_Md_goAll_43 ?_
            rw [ny_le (by omega) (by omega)]
            exact ⟨fun _ => h I2 hM2 hV' hc, fun q => absurd (by omega) q⟩
          | succ m ih =>
            intro k w a' I2 hk hw hM2 hV' hc e
            have hMt : ny_SM I2 s := fun q hq => by rw [hc 113 (by decide), hc 114 (by decide), hc 115 (by decide)]; exact hM q hq
            rw [nz_ga] at e
            refine s_Md_goAll_43 ?_
            rw [ny_le (by omega) (by omega), nI_clamp (by omega), ny_inN (by omega) (by decide), (hMt t (by omega)).2.1]
            refine ⟨fun q => absurd q (by omega), fun _ => ⟨rfl, q_Md_inS (by omega) sv.2 rfl rfl (fun i ei hi ey => ⟨fun _ => ?_, fun q => absurd q (by decide)⟩) fun ei => ⟨fun q => absurd rfl q, fun _ => ?_⟩⟩⟩
            · have e40 : ((40 : Int32) * nI t + y) + nI k = nI (40 * t + i) := by rw [Int32.add_assoc, ey, ny_lit, ny_mul, nI_add]
              rw [e40, nI_clamp (by omega), ny_inN (by omega) (by decide), (hMt t (by omega)).2.2 i (by omega), nI_1]
              simp only [ei] at e
              have nx0 : nz_ga s t y m (k + 1) w a' = nz_ga s t y n 0 0 a → ny_g (d + 5) m_Md_goAll 43 [(0, .ref 102), (1, .int (nI t)), (2, .int y), (3, .int (nI n)), (4, .int (nI w + 0)), (5, .int (nI (k + 1)))] [] Ln I2 (ny_r1 Ln Q) := fun e2 => by
                rw [show nI w + (0 : Int32) = nI w from nI_add w 0]
                exact ih (k + 1) w a' I2 (by omega) (by omega) hM2 hV' hc e2
              refine ⟨rfl, q_Md_isAct (d := d + 3) hM2 hV' (fun act ea ha2 ex => ⟨fun q => absurd q (by decide), fun _ => q_Md_isOver hM2 hV' ?_⟩) fun ea => ⟨fun _ => ?_, fun q => absurd rfl q⟩⟩
              · simp only [ea] at e
                by_cases ov : a' 2 ≤ a' 1
                · rw [if_pos ov] at e ⊢
                  exact ⟨fun _ => nx0 e, fun q => absurd q (by decide)⟩
                · rw [if_neg ov] at e ⊢
                  have g := nz_go0 hV' ha2 (by omega)
                  refine ⟨fun q => absurd rfl q, fun _ => ?_⟩
                  rw [ex]
                  refine q_Md_goesWith (d := d) hM2 hV' ha2 fun I3 h4 h5 => ?_
                  rw [nI_add]
                  exact ih (k + 1) _ _ I3 (by omega) (by omega) h4 g.1 (fun c x => by rw [h5 c x]; exact hc c x) e
              · simp only [ea] at e
                exact nx0 e
            · simp only [ei] at e
              rw [← e] at h
              rw [ny_m12]; exact h I2 hM2 hV' hc
        exact key n 0 0 a I (by omega) (by omega) ha hV (fun _ _ => rfl) rfl
      · rw [if_neg c2]
        refine ⟨fun q => absurd q (by decide +kernel), fun _ => q_Md_lacks (w := 0) hM hS (by omega) (by decide) ?_⟩
        rw [if_neg c, if_neg c2]
        exact no _ (by simp only [o_goAll, et, en, if_neg c, if_neg c2])
  · rw [ny_m1]
    exact no _ (by simp only [o_goAll, et, en])
  · rw [ny_m1]
    exact no _ (by simp only [o_goAll, et])
theorem q_Md_wouldBe {x y z : Int32} (ha : ny_Md I a) (hV : ny_V a) (hM : ny_SM I s) (hS : nz_SV s) (h : ∀ I', nz_af 0 I' I a → Q (o_wouldBe x y z s a) I') : ny_C1 (d + 6) m_Md_wouldBe [.ref 102, .int x, .int y, .int z] Ln I Q := by
  have no : ∀ v, o_wouldBe x y z s a = v → Q v I := fun v e => by
    rw [← e]; exact h I (nz_af_r ha)
  refine s_Md_wouldBe_0 (q_Md_isSheet (d := d + 4) (fun t et ht ex => ⟨fun q => absurd q (by decide), fun _ => q_Md_I 0 20 rfl rfl (by decide) (by decide) (fun n en _ hn ez => ⟨fun _ => ?_, fun q => absurd q (by decide)⟩) (fun en => ⟨fun q => absurd rfl q, fun _ => ?_⟩)⟩) fun et => ⟨fun _ => ?_, fun q => absurd rfl q⟩)
  · subst ex ez
    have sv := hS t (by omega)
    refine q_Md_lacks (w := 0) hM hS (by omega) (by decide) ?_
    by_cases c : s.1 t = 5
    · rw [if_pos c]
      refine ⟨fun q => absurd q (by decide +kernel), fun _ => q_Md_lacks (w := 0) hM hS (by omega) (by decide) ?_⟩
      rw [if_pos c]
      exact no _ (by simp only [o_wouldBe, et, en, if_pos c])
    · rw [if_neg c]
      by_cases c2 : s.1 t = 0
      · rw [if_pos c2]
        refine ⟨fun _ => q_Md_laysAside ha (by decide) fun I1 ha1 hA1 => s_Md_sumBy_0 ?_, fun q => absurd rfl q⟩
        simp only [o_wouldBe, et, en, if_neg c, if_pos c2] at h
        have fin : ∀ v (a' : ny_a) (I2 : ny_I), ny_Md I2 a' → ny_Sm a' a → nz_as 0 I2 I a → v = nz_wb s t y n 0 0 a → ny_C0 (d + 5) m_Md_laysBack [.ref 102, .int 0] Ln I2 (fun I' => Q v I') := by
          intro v a' I2 h1 h2 h3 e
          refine q_Md_laysBack (k := 0) h1 (by decide) (nz_Sm0 h2).2.2 h3 fun I' h4 _ => ?_
          rw [e]; exact h I' h4
        have key : ∀ m k w (a' : ny_a) (I2 : ny_I), k + m = n → w ≤ 85 * k → ny_Md I2 a' → ny_V a' → ny_Sm a' a → nz_as 0 I2 I a → nz_wb s t y m k w a' = nz_wb s t y n 0 0 a → ny_g (d + 5) m_Md_sumBy 6 [(0, .ref 102), (1, .int (nI t)), (2, .int y), (3, .int (nI n)), (4, .int (nI w)), (5, .int (nI k))] [] Ln I2 (ny_r1 Ln fun r I' => ny_C0 (d + 5) m_Md_laysBack [.ref 102, .int 0] Ln I' (fun I' => Q r I')) := by
          intro m
          induction m with
          | zero =>
            intro k w a' I2 hk hw hM2 hV' hs hA e
            rw [nz_wb] at e
            refine s_Md_sumBy_6 ?_
            rw [ny_le (by omega) (by omega)]
            exact ⟨fun _ => fin _ a' I2 hM2 hs hA e, fun q => absurd (by omega) q⟩
          | succ m ih =>
            intro k w a' I2 hk hw hM2 hV' hs hA e
            have hMt : ny_SM I2 s := fun q hq => by rw [hA.1 113 (by decide) (by decide), hA.1 114 (by decide) (by decide), hA.1 115 (by decide) (by decide)]; exact hM q hq
            rw [nz_wb] at e
            refine s_Md_sumBy_6 ?_
            rw [ny_le (by omega) (by omega), nI_clamp (by omega), ny_inN (by omega) (by decide), (hMt t (by omega)).2.1]
            refine ⟨fun q => absurd q (by omega), fun _ => ⟨rfl, q_Md_inS (by omega) sv.2 rfl rfl (fun i ei hi ey => ⟨fun _ => ?_, fun q => absurd q (by decide)⟩) fun ei => ⟨fun q => absurd rfl q, fun _ => ?_⟩⟩⟩
            · have e40 : ((40 : Int32) * nI t + y) + nI k = nI (40 * t + i) := by rw [Int32.add_assoc, ey, ny_lit, ny_mul, nI_add]
              rw [e40, nI_clamp (by omega), ny_inN (by omega) (by decide), (hMt t (by omega)).2.2 i (by omega), nI_1]
              simp only [ei] at e
              refine ⟨rfl, q_Md_isAct (d := d + 3) hM2 hV' (fun act ea ha2 ex => ⟨fun q => absurd q (by decide), fun _ => q_Md_isOver hM2 hV' ?_⟩) fun ea => ⟨fun _ => ?_, fun q => absurd rfl q⟩⟩
              · simp only [ea] at e
                by_cases ov : a' 2 ≤ a' 1
                · rw [if_pos ov] at e ⊢
                  refine ⟨fun q => absurd q (by decide), fun _ => ?_⟩
                  rw [ny_m4]; exact fin _ a' I2 hM2 hs hA e
                · rw [if_neg ov] at e ⊢
                  have g := nz_go hV' ha2 (by omega)
                  refine ⟨fun _ => ?_, fun q => absurd rfl q⟩
                  rw [ex]
                  refine q_Md_goesWith (d := d) hM2 hV' ha2 fun I3 h4 h5 => ?_
                  rw [nI_add]
                  exact ih (k + 1) _ _ I3 (by omega) (by omega) h4 g.2.1 (nz_Sm_tr g.2.2.1 hs) (nz_as_m hA h5) e
              · simp only [ea] at e
                rw [ny_m4]; exact fin _ a' I2 hM2 hs hA e
            · simp only [ei] at e
              rw [ny_m12]; exact fin _ a' I2 hM2 hs hA e
        exact key n 0 0 a I1 (by omega) (by omega) ha1 hV (fun _ _ _ _ => rfl) hA1 rfl
      · rw [if_neg c2]
        refine ⟨fun q => absurd q (by decide +kernel), fun _ => q_Md_lacks (w := 0) hM hS (by omega) (by decide) ?_⟩
        rw [if_neg c, if_neg c2]
        exact no _ (by simp only [o_wouldBe, et, en, if_neg c, if_neg c2])
  · rw [ny_m1]
    exact no _ (by simp only [o_wouldBe, et, en])
  · rw [ny_m1]
    exact no _ (by simp only [o_wouldBe, et])
theorem q_No_refusal {x z : Int32} (hM : ny_SC I s) (hS : nz_SV s) (h1 : ∀ t n, nz_in 0 3 x = some t → nz_in 0 20 z = some n → t ≤ 3 → n ≤ 20 → x = nI t → z = nI n → Q (if s.1 t = 5 then nI 4294967285 else if s.1 t = 0 then nI 0 else nI 4294967283) I) (h0 : (nz_in 0 3 x = none ∨ nz_in 0 20 z = none) → Q (nI 4294967295) I) : ny_C1 (d + 1) m_No_refusalOfActs [.ref 5, .int x, .int z] Ln I Q := by
  refine s_No_refusalOfActs_0 (q_No_I 0 3 rfl rfl (by decide) (by decide) (fun t et _ ht ex => ⟨fun q => absurd q (by decide), fun _ => q_No_I 0 20 rfl rfl (by decide) (by decide) (fun n en _ hn ez => ⟨fun _ => ⟨?_, ?_⟩, fun q => absurd q (by decide)⟩) (fun en => ⟨fun q => absurd rfl q, fun _ => by rw [ny_m1]; exact h0 (Or.inr en)⟩)⟩) fun et => ⟨fun _ => by rw [ny_m1]; exact h0 (Or.inl et), fun q => absurd rfl q⟩)
  · rw [ex]; exact ny_inN (by omega) (by decide)
  · have := h1 t n et en ht hn ex ez
    subst ex ez
    rw [nI_clamp (by omega)]
    exact s_No_refusalOfActs_a26 (by omega) (q_Sh_refusalAs (w := 0) hM hS (by omega) (by decide) this)
theorem nz_goAll_no {x y z : Int32} (h : nz_in 0 3 x = none ∨ nz_in 0 20 z = none) : o_goAll x y z s a = (nI 4294967295, a) ∧ o_wouldBe x y z s a = nI 4294967295 := by
  unfold o_goAll o_wouldBe
  rcases h with h | h
  · rw [h]; exact ⟨rfl, rfl⟩
  · rw [h]
    cases nz_in 0 3 x <;> exact ⟨rfl, rfl⟩
theorem q_No_goAll {x y z : Int32} (hC : ny_Cl I a) (hV : ny_V a) (hM : ny_SC I s) (hS : nz_SV s) (h : ∀ I', nz_cf I' I (o_goAll x y z s a).2 → Q (o_goAll x y z s a).1 I') : ny_C1 (d + 5) m_No_goAll [.ref 5, .int x, .int y, .int z] Ln I Q := by
  have no : ∀ v, o_goAll x y z s a = (v, a) → Q v I := fun v e => by
    rw [e] at h; exact h I (nz_cf_r hC)
  refine s_No_goAll_0 (q_No_refusal hM hS (fun t n et en ht hn ex ez => ?_) fun e => ⟨fun q => absurd q (by decide +kernel), fun _ => no _ (nz_goAll_no e).1⟩)
  have sv := hS t (by omega)
  by_cases c : s.1 t = 5
  · rw [if_pos c]
    exact ⟨fun q => absurd q (by decide +kernel), fun _ => no _ (by simp only [o_goAll, et, en, if_pos c])⟩
  · rw [if_neg c]
    by_cases c2 : s.1 t = 0
    · rw [if_pos c2]
      simp only [o_goAll, et, en, if_neg c, if_pos c2] at h
      subst ex ez
      rw [nI_clamp (by omega)]
      refine ⟨fun _ => ⟨ny_inN (by omega) (by decide), s_No_goAll_a21 (by omega) ?_⟩, fun q => absurd rfl q⟩
      have key : ∀ m k w (a' : ny_a) (I2 : ny_I), k + m = n → w ≤ 85 * k → nz_cf I2 I a' → ny_V a' → nz_ga s t y m k w a' = nz_ga s t y n 0 0 a → ny_g (d + 5) m_No_goAll 30 [(0, .ref 5), (2, .int y), (3, .int (nI n)), (5, .ref (90 + 2 * t)), (6, .int (nI w)), (7, .int (nI k))] [] Ln I2 (ny_r1 Ln Q) := by
        intro m
        induction m with
        | zero =>
          intro k w a' I2 hk hw hF hV' e
          rw [← e] at h
          refine s_No_goAll_30 (by omega) ?_
          rw [ny_le (by omega) (by omega)]
          exact ⟨fun _ => h I2 hF, fun q => absurd (by omega) q⟩
        | succ m ih =>
          intro k w a' I2 hk hw hF hV' e
          have hMt : ny_SC I2 s := fun q hq => by rw [hF.2 (90 + 2 * q) (by omega), hF.2 (91 + 2 * q) (by omega)]; exact hM q hq
          rw [nz_ga] at e
          refine s_No_goAll_30 (by omega) ?_
          rw [ny_le (by omega) (by omega)]
          refine ⟨fun q => absurd q (by omega), fun _ => q_Sh_has (by omega) (hMt t (by omega)).2.1 sv.2 (fun i ei hi ey => ⟨fun _ => ?_, fun q => absurd q (by decide)⟩) fun ei => ⟨fun q => absurd rfl q, fun _ => ?_⟩⟩
          · simp only [ei] at e
            rw [ey, nI_clamp (by omega), ny_inN (by omega) (by decide), show 90 + 2 * t + 1 = 91 + 2 * t by omega, (hMt t (by omega)).2.2 i (by omega), nI_1]
            refine ⟨rfl, q_Ba_isAct hF.1.1 hV' (fun act ea ha2 ex => ⟨fun q => absurd q (by decide), fun _ => q_Ba_isOver nz_m7 hF.1.1 hF.1.2.1 hV' ?_⟩) fun ea => ⟨fun _ => ?_, fun q => absurd rfl q⟩⟩
            · simp only [ea] at e
              by_cases ov : a' 2 ≤ a' 1
              · rw [if_pos ov] at e ⊢
                exact ⟨fun _ => ih (k + 1) w a' I2 (by omega) (by omega) hF hV' e, fun q => absurd q (by decide)⟩
              · rw [if_neg ov] at e ⊢
                have g := nz_go0 hV' ha2 (by omega)
                refine ⟨fun q => absurd rfl q, fun _ => ?_⟩
                rw [ex]
                refine q_No_goOn (d := d) hF.1 hV' ha2 (by omega) fun I3 hF3 => ?_
                rw [nI_add]
                exact ih (k + 1) _ _ I3 (by omega) (by omega) ⟨hF3.1, fun q hq => by rw [hF3.2 q hq]; exact hF.2 q hq⟩ g.1 e
            · simp only [ea] at e
              exact ih (k + 1) w a' I2 (by omega) (by omega) hF hV' e
          · simp only [ei] at e
            rw [← e] at h
            rw [ny_m12]; exact h I2 hF
      exact key n 0 0 a I (by omega) (by omega) (nz_cf_r hC) hV rfl
    · rw [if_neg c2]
      exact ⟨fun q => absurd q (by decide +kernel), fun _ => no _ (by simp only [o_goAll, et, en, if_neg c, if_neg c2])⟩
theorem q_No_wouldBe {x y z : Int32} (hC : ny_Cl I a) (hV : ny_V a) (hM : ny_SC I s) (hS : nz_SV s) (h : ∀ I', nz_cf I' I a → Q (o_wouldBe x y z s a) I') : ny_C1 (d + 5) m_No_wouldBe [.ref 5, .int x, .int y, .int z] Ln I Q := by
  have no : ∀ v, o_wouldBe x y z s a = v → Q v I := fun v e => by
    rw [← e]; exact h I (nz_cf_r hC)
  refine s_No_wouldBe_0 (q_No_refusal hM hS (fun t n et en ht hn ex ez => ?_) fun e => ⟨fun q => absurd q (by decide +kernel), fun _ => no _ (nz_goAll_no e).2⟩)
  have sv := hS t (by omega)
  by_cases c : s.1 t = 5
  · rw [if_pos c]
    exact ⟨fun q => absurd q (by decide +kernel), fun _ => no _ (by simp only [o_wouldBe, et, en, if_pos c])⟩
  · rw [if_neg c]
    by_cases c2 : s.1 t = 0
    · rw [if_pos c2]
      simp only [o_wouldBe, et, en, if_neg c, if_pos c2] at h
      subst ex ez
      rw [nI_clamp (by omega)]
      refine ⟨fun _ => ⟨ny_inN (by omega) (by decide), s_No_wouldBe_a21 (by omega) (q_Ba_copyOfNow (d := d + 3) hC.2.1 hV fun I1 hF1 hM1 => ⟨rfl, ?_⟩)⟩, fun q => absurd rfl q⟩
      have fin : ∀ v (I2 : ny_I), nz_fr 28 I2 I → v = nz_wb s t y n 0 0 a → Q v I2 := by
        intro v I2 hF e
        rw [e]; exact h I2 (nz_cf_28 hC hV hF)
      have key : ∀ m k w (a' : ny_a) (I2 : ny_I), k + m = n → w ≤ 85 * k → ny_Ba I2 a' → ny_Mo I2 28 a' → nz_fr 28 I2 I → ny_V a' → nz_wb s t y m k w a' = nz_wb s t y n 0 0 a → ny_g (d + 5) m_No_wouldBe 39 [(0, .ref 5), (2, .int y), (3, .int (nI n)), (5, .ref (90 + 2 * t)), (6, .ref 28), (7, .int (nI w)), (8, .int (nI k))] [] Ln I2 (ny_r1 Ln Q) := by
        intro m
        induction m with
        | zero =>
          intro k w a' I2 hk hw hB2 hM2 hF hV' e
          rw [nz_wb] at e
          refine s_No_wouldBe_39 (by omega) ?_
          rw [ny_le (by omega) (by omega)]
          exact ⟨fun _ => fin _ I2 hF e, fun q => absurd (by omega) q⟩
        | succ m ih =>
          intro k w a' I2 hk hw hB2 hM2 hF hV' e
          have hMt : ny_SC I2 s := fun q hq => by rw [hF.1 (90 + 2 * q) (by omega) (by omega) (by omega), hF.1 (91 + 2 * q) (by omega) (by omega) (by omega)]; exact hM q hq
          rw [nz_wb] at e
          refine s_No_wouldBe_39 (by omega) ?_
          rw [ny_le (by omega) (by omega)]
          refine ⟨fun q => absurd q (by omega), fun _ => q_Sh_has (by omega) (hMt t (by omega)).2.1 sv.2 (fun i ei hi ey => ⟨fun _ => ?_, fun q => absurd q (by decide)⟩) fun ei => ⟨fun q => absurd rfl q, fun _ => ?_⟩⟩
          · simp only [ei] at e
            rw [ey, nI_clamp (by omega), ny_inN (by omega) (by decide), show 90 + 2 * t + 1 = 91 + 2 * t by omega, (hMt t (by omega)).2.2 i (by omega), nI_1]
            refine ⟨rfl, q_Ba_isAct hB2 hV' (fun act ea ha2 ex => ⟨fun q => absurd q (by decide), fun _ => q_Ba_isOver nz_m28 hB2 hM2 hV' ?_⟩) fun ea => ⟨fun _ => ?_, fun q => absurd rfl q⟩⟩
            · simp only [ea] at e
              by_cases ov : a' 2 ≤ a' 1
              · rw [if_pos ov] at e ⊢
                refine ⟨fun q => absurd q (by decide), fun _ => ?_⟩
                rw [ny_m4]; exact fin _ I2 hF e
              · rw [if_neg ov] at e ⊢
                have g := nz_go hV' ha2 (by omega)
                refine ⟨fun _ => ?_, fun q => absurd rfl q⟩
                rw [ex]
                refine q_Ba_goBy (d := d + 1) nz_m28 hB2 hM2 hV' ha2 fun I3 hF3 hM3 => ?_
                rw [nI_add]
                exact ih (k + 1) _ _ I3 (by omega) (by omega) (nz_Ba_mv nz_m28 hF3 g.2.2.1 hV' hB2) hM3 (nz_Fr_t hF3 hF) g.2.1 e
            · simp only [ea] at e
              rw [ny_m4]; exact fin _ I2 hF e
          · simp only [ei] at e
            rw [ny_m12]; exact fin _ I2 hF e
      exact key n 0 0 a I1 (by omega) (by omega) (nz_Ba_mv nz_m28 hF1 (fun _ _ _ _ => rfl) hV hC.1) hM1 hF1 hV rfl
    · rw [if_neg c2]
      exact ⟨fun q => absurd q (by decide +kernel), fun _ => no _ (by simp only [o_wouldBe, et, en, if_neg c, if_neg c2])⟩
end NZGO
