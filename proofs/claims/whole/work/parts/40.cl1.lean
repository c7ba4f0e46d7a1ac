/-! the class: what its cells hold of the numbers a -/
/-- a value's place among the values of the rules -/
def ny_vr (I : ny_I) (x : Int32) (v : Nat) : Prop := (10000 ≤ v ∧ x = nI (v - 10000)) ∨ (v < 10000 ∧ ∃ j, 5 ≤ j ∧ j < 205 ∧ x = nI j ∧ I 22 j = nI v)
/-- the basin but for what bells change -/
def ny_Ba (I : ny_I) (a : ny_a) : Prop := (I 6 4 = nI (a 0) ∧ I 6 8 = nI (a 2)) ∧ (∀ k, k < a 0 → I 9 k = nI (a (8 + 5 * k)) ∧ I 10 k = nI (a (10 + 5 * k)) ∧ I 11 k = nI (a (11 + 5 * k))) ∧
  (∀ f, f < 6 → I 13 f = nI (a (38 + f)) ∧ I 14 f = nI (a (44 + f))) ∧ (∀ b, b < 16 → I 12 b = nI (a (50 + b))) ∧ (I 15 0 = nI (a 5) ∧ I 15 4 = nI (a 7)) ∧
  (∀ r, r < a 5 → I 16 r = nI (a (66 + 4 * r)) ∧ I 17 r = nI (a (67 + 4 * r)) ∧ I 18 r = nI (a (69 + 4 * r))) ∧
  (∀ i, i < a 7 → I 19 i = nI (a (122 + 3 * i)) ∧ (a (122 + 3 * i) < 3 → ny_vr I (I 20 i) (a (123 + 3 * i)) ∧ ny_vr I (I 21 i) (a (124 + 3 * i)))) ∧ I 1 = ny_ab
/-- the moment at cell c -/
def ny_Mo (I : ny_I) (c : Nat) (a : ny_a) : Prop := I c 2 = nI (a 1) ∧ (∀ k, k < a 0 → I (c + 1) k = nI (a (9 + 5 * k))) ∧ ∃ m, m < 64 ∧ I c 1 = nI m ∧ ∀ k, k < 6 → m.testBit k = decide (k < a 0 ∧ a (12 + 5 * k) = 1)
/-- a moment's cell -/
def ny_mc (c : Nat) : Prop := c = 7 ∨ c = 28 ∨ c = 71 ∨ c = 73 ∨ c = 75 ∨ c = 77 ∨ c = 79
/-- only the facts and the moment at c have changed -/
def nz_fr (c : Nat) (I' I : ny_I) : Prop := (∀ q, q ≠ 22 → q ≠ c → q ≠ c + 1 → I' q = I q) ∧ ∀ j, 5 ≤ j → I' 22 j = I 22 j
/-- only the facts -/
def nz_fs (I' I : ny_I) : Prop := (∀ q, q ≠ 22 → I' q = I q) ∧ ∀ j, 5 ≤ j → I' 22 j = I 22 j
theorem nz_Fs_r (I : ny_I) : nz_fs I I := ⟨fun _ _ => rfl, fun _ _ => rfl⟩
theorem nz_Fs_t {I1 I2 I3 : ny_I} (h : nz_fs I1 I2) (h2 : nz_fs I2 I3) : nz_fs I1 I3 := ⟨fun q hq => (h.1 q hq).trans (h2.1 q hq), fun j hj => (h.2 j hj).trans (h2.2 j hj)⟩
theorem nz_Fr_t {c : Nat} {I1 I2 I3 : ny_I} (h : nz_fr c I1 I2) (h2 : nz_fr c I2 I3) : nz_fr c I1 I3 := ⟨fun q hq h3 h4 => (h.1 q hq h3 h4).trans (h2.1 q hq h3 h4), fun j hj => (h.2 j hj).trans (h2.2 j hj)⟩
theorem nz_Fs_Fr {c : Nat} {I1 I2 : ny_I} (h : nz_fs I1 I2) : nz_fr c I1 I2 := ⟨fun q hq _ _ => h.1 q hq, h.2⟩
theorem nz_vr_mv {I I' : ny_I} (h : ∀ j, 5 ≤ j → I' 22 j = I 22 j) {x : Int32} {v : Nat} (hv : ny_vr I x v) : ny_vr I' x v := by
  rcases hv with hv | ⟨h1, j, h2, h3, h4, h5⟩
  · exact Or.inl hv
  · exact Or.inr ⟨h1, j, h2, h3, h4, by rw [h j h2]; exact h5⟩
theorem nz_Ba_mv {I I' : ny_I} {a a' : ny_a} {c : Nat} (hc : ny_mc c) (hF : nz_fr c I' I) (hs : ny_Sm a' a) (hV : ny_V a) (h : ny_Ba I a) : ny_Ba I' a' := by
  have e : ∀ q, q = 1 ∨ q = 6 ∨ (9 ≤ q ∧ q ≤ 21) → I' q = I q := by
    intro q hq
    unfold ny_mc at hc
    exact hF.1 q (by omega) (by omega) (by omega)
  have ea : ∀ j, j ≠ 1 → j ≠ 3 → (j < 9 ∨ 38 ≤ j) → a' j = a j := fun j a1 a3 h => hs j a1 a3 fun k hk => by omega
  have e8 : ∀ k, k < 6 → a' (8 + 5 * k) = a (8 + 5 * k) ∧ a' (10 + 5 * k) = a (10 + 5 * k) ∧ a' (11 + 5 * k) = a (11 + 5 * k) := fun k hk =>
    ⟨hs _ (by omega) (by omega) fun q hq => by omega, hs _ (by omega) (by omega) fun q hq => by omega, hs _ (by omega) (by omega) fun q hq => by omega⟩
  have v := hV.1
  obtain ⟨⟨h1, h2⟩, h3, h4, h5, ⟨h6, h7⟩, h8, h9, h10⟩ := h
  unfold ny_Ba
  rw [e 6 (by omega), e 9 (by omega), e 10 (by omega), e 11 (by omega), e 12 (by omega), e 13 (by omega), e 14 (by omega), e 15 (by omega), e 16 (by omega), e 17 (by omega), e 18 (by omega), e 19 (by omega), e 20 (by omega), e 21 (by omega), e 1 (by omega),
    ea 0 (by omega) (by omega) (by omega), ea 2 (by omega) (by omega) (by omega), ea 5 (by omega) (by omega) (by omega), ea 7 (by omega) (by omega) (by omega)]
  refine ⟨⟨h1, h2⟩, fun k hk => ?_, fun f hf => ?_, fun b hb => ?_, ⟨h6, h7⟩, fun r hr => ?_, fun i hi => ?_, h10⟩
  · obtain ⟨q1, q2, q3⟩ := e8 k (by omega)
    rw [q1, q2, q3]; exact h3 k hk
  · rw [ea _ (by omega) (by omega) (by omega), ea _ (by omega) (by omega) (by omega)]; exact h4 f hf
  · rw [ea _ (by omega) (by omega) (by omega)]; exact h5 b hb
  · rw [ea _ (by omega) (by omega) (by omega), ea _ (by omega) (by omega) (by omega), ea _ (by omega) (by omega) (by omega)]; exact h8 r hr
  · rw [ea _ (by omega) (by omega) (by omega), ea _ (by omega) (by omega) (by omega), ea _ (by omega) (by omega) (by omega)]
    obtain ⟨g1, g2⟩ := h9 i hi
    exact ⟨g1, fun q => ⟨nz_vr_mv hF.2 (g2 q).1, nz_vr_mv hF.2 (g2 q).2⟩⟩
theorem nz_Ba_Fs {I I' : ny_I} {a : ny_a} (hF : nz_fs I' I) (hV : ny_V a) (h : ny_Ba I a) : ny_Ba I' a := nz_Ba_mv (c := 7) (Or.inl rfl) (nz_Fs_Fr hF) (fun _ _ _ _ => rfl) hV h
theorem nz_Mo_Fs {I I' : ny_I} {a : ny_a} {c : Nat} (hc : ny_mc c) (hF : nz_fs I' I) (h : ny_Mo I c a) : ny_Mo I' c a := by
  unfold ny_mc at hc
  unfold ny_Mo
  rw [hF.1 c (by omega), hF.1 (c + 1) (by omega)]
  exact h
theorem nz_ifc {P P' : Prop} {i : Decidable P} {i' : Decidable P'} (e : P ↔ P') {x y : Int32} : @ite _ P i x y = @ite _ P' i' x y := by
  by_cases h : P
  · rw [if_pos h, if_pos (e.mp h)]
  · rw [if_neg h, if_neg (fun q => h (e.mpr q))]
section NZC
variable {d Ln : Nat} {I : ny_I} {Q : Int32 → ny_I → Prop} {a : ny_a}
theorem q_Ki_und0 {as : Nat} (hI : I 1 = ny_ab) (has : as < 2 ^ 20) : ∀ st, st < 5 → Q (if as = 0 then nI 1 else nI 0) I → ny_g d m_Ki_isUnder 4 [(1, .int (nI as)), (2, .int (nI 0)), (3, .int (nI st))] [] Ln I (ny_r1 Ln Q) := by
  intro st hst h
  refine s_Ki_isUnder_4 ?_
  rw [hI]
  simp (disch := omega) only [ny_lit, nI_add, ny_mul, nI_clamp, ny_le, ny_lt, ny_eq, ny_div, ny_rem, ny_rem2, ny_inN]
  refine ⟨fun c => absurd c (by omega), fun _ => ⟨fun c => absurd c (by omega), fun _ => ⟨fun c => absurd c (by omega), fun _ => ⟨fun c => ⟨trivial, ?_⟩, fun c => ?_⟩⟩⟩⟩
  · rw [if_neg (by omega)] at h
    refine s_Ki_isUnder_4 ?_
    simp (disch := omega) only [ny_lit, nI_add, ny_mul, nI_clamp, ny_le, ny_lt, ny_eq, ny_div, ny_rem, ny_rem2, ny_inN]
    exact ⟨fun c => absurd c (by omega), fun _ => ⟨fun _ => h, fun c => absurd (by decide +kernel) c⟩⟩
  · rw [if_pos (by omega)] at h; exact h
theorem q_Ki_undS {as at' : Nat} (hI : I 1 = ny_ab) (has : as < 2 ^ 20) (ha : at' < 6) {st : Nat} (hst : st < 5) (h1 : as = at' → Q (nI 1) I) (h2 : ¬ as = at' → ny_g d m_Ki_isUnder 4 [(1, .int (nI as)), (2, .int (ny_ab at')), (3, .int (nI (st + 1)))] [] Ln I (ny_r1 Ln Q)) :
    ny_g d m_Ki_isUnder 4 [(1, .int (nI as)), (2, .int (nI at')), (3, .int (nI st))] [] Ln I (ny_r1 Ln Q) := by
  refine s_Ki_isUnder_4 ?_
  rw [hI]
  simp (disch := omega) only [ny_lit, nI_add, ny_mul, nI_clamp, ny_le, ny_lt, ny_eq, ny_div, ny_rem, ny_rem2, ny_inN, true_and]
  exact ⟨fun c => absurd c (by omega), fun _ => ⟨fun c => absurd c (by omega), fun _ => ⟨fun c => absurd c (by omega), fun _ => ⟨fun c => h2 (fun q => c q.symm), fun c => h1 c.symm⟩⟩⟩⟩
theorem q_Ki_isUnder {own as : Nat} (hI : I 1 = ny_ab) (has : as < 2 ^ 20) (ho : own ≤ 5) (h1 : 1 ≤ own) (h : Q (if ny_und own as then nI 1 else nI 0) I) : ny_C1 d m_Ki_isUnder [.int (nI own), .int (nI as)] Ln I Q := by
  refine s_Ki_isUnder_0 ?_
  simp only [ny_und, decide_eq_true_eq] at h
  have hc : own = 1 ∨ own = 2 ∨ own = 3 ∨ own = 4 ∨ own = 5 := by omega
  have two : ∀ st, st < 4 → Q (if as = 2 ∨ as = 0 then nI 1 else nI 0) I → ny_g d m_Ki_isUnder 4 [(1, .int (nI as)), (2, .int (nI 2)), (3, .int (nI st))] [] Ln I (ny_r1 Ln Q) := by
    intro st hst h
    refine q_Ki_undS hI has (by decide) (by omega) (fun e => ?_) (fun e => q_Ki_und0 hI has (st + 1) (by omega) ?_)
    · rw [if_pos (Or.inl e)] at h; exact h
    · simpa [e] using h
  have four : ∀ st, st < 4 → Q (if as = 4 ∨ as = 0 then nI 1 else nI 0) I → ny_g d m_Ki_isUnder 4 [(1, .int (nI as)), (2, .int (nI 4)), (3, .int (nI st))] [] Ln I (ny_r1 Ln Q) := by
    intro st hst h
    refine q_Ki_undS hI has (by decide) (by omega) (fun e => ?_) (fun e => q_Ki_und0 hI has (st + 1) (by omega) ?_)
    · rw [if_pos (Or.inl e)] at h; exact h
    · simpa [e] using h
  rcases hc with rfl | rfl | rfl | rfl | rfl
  · refine q_Ki_undS (st := 0) hI has (by decide) (by omega) (fun e => ?_) (fun e => q_Ki_und0 hI has 1 (by omega) ?_)
    · subst e; exact h
    · have : (as = 0 ↔ (as = 0 ∨ 1 = as ∨ (as = 2 ∧ 1 = 3) ∨ as = 4 ∧ 1 = 5)) := by omega
      rw [nz_ifc this]; exact h
  · refine two 0 (by omega) ?_
    have : (as = 2 ∨ as = 0 ↔ (as = 0 ∨ 2 = as ∨ (as = 2 ∧ 2 = 3) ∨ as = 4 ∧ 2 = 5)) := by omega
    rw [nz_ifc this]; exact h
  · refine q_Ki_undS (st := 0) hI has (by decide) (by omega) (fun e => ?_) (fun e => two 1 (by omega) ?_)
    · subst e; exact h
    · have : (as = 2 ∨ as = 0 ↔ (as = 0 ∨ 3 = as ∨ (as = 2 ∧ 3 = 3) ∨ as = 4 ∧ 3 = 5)) := by omega
      rw [nz_ifc this]; exact h
  · refine four 0 (by omega) ?_
    have : (as = 4 ∨ as = 0 ↔ (as = 0 ∨ 4 = as ∨ (as = 2 ∧ 4 = 3) ∨ as = 4 ∧ 4 = 5)) := by omega
    rw [nz_ifc this]; exact h
  · refine q_Ki_undS (st := 0) hI has (by decide) (by omega) (fun e => ?_) (fun e => four 1 (by omega) ?_)
    · subst e; exact h
    · have : (as = 4 ∨ as = 0 ↔ (as = 0 ∨ 5 = as ∨ (as = 2 ∧ 5 = 3) ∨ as = 4 ∧ 5 = 5)) := by omega
      rw [nz_ifc this]; exact h
theorem q_Ki_wearies {kind bell w : Nat} (hk1 : 1 ≤ kind) (hk : kind ≤ 5) (hb : bell < 2 ^ 20) (hw : w < 2 ^ 20) (h : Q (nI (ny_wear kind bell w)) I) : ny_C1 d m_Ki_wearies [.int (nI kind), .int (nI (w / 4)), .int (nI bell)] Ln I Q := by
  refine s_Ki_wearies_0 ?_
  have h4 := Nat.div_le_self w 4
  have h5 := Nat.div_le_self bell 4
  have h6 : bell % 2 < 2 := Nat.mod_lt _ (by decide)
  simp only [show ∀ x : Int32, ((0 : Int32) < x) = (nI 0 < x) from fun _ => rfl]
  simp (disch := omega) only [ny_lit, nI_add, ny_mul, nI_clamp, ny_le, ny_lt, ny_eq, ny_div, ny_rem, ny_rem2, ny_inN]
  have e5 : (if nI 0 < nI (3 + 4 * (w / 4) + bell / 4) - nI 5 then nI (3 + 4 * (w / 4) + bell / 4) - nI 5 else nI 0) = nI (3 + 4 * (w / 4) + bell / 4 - 5) := ny_max0 (by omega) (by omega)
  rw [e5]
  refine ⟨fun c => ?_, fun c => ?_, fun c => ?_, fun c => ?_, fun c => ⟨fun c1 => ?_, fun c1 => ?_⟩, fun c1 c2 c3 c4 => ?_⟩ <;>
  · grind [ny_wear]
theorem q_Ki_shows {kind grace number w : Nat} (hk1 : 1 ≤ kind) (hk : kind ≤ 5) (hb : grace < 2 ^ 20) (hn : number < 2 ^ 20) (hw : w < 2 ^ 20) (h : Q (nI (ny_shw kind grace number w)) I) : ny_C1 d m_Ki_shows [.int (nI kind), .int (nI grace), .int (nI (w % 4)), .int (nI number)] Ln I Q := by
  refine s_Ki_shows_0 ?_
  have h4 : w % 4 < 4 := Nat.mod_lt _ (by decide)
  have h5 := Nat.div_le_self grace 3
  simp (disch := omega) only [ny_lit, nI_add, ny_mul, nI_clamp, ny_le, ny_lt, ny_eq, ny_div, ny_rem, ny_rem2, ny_inN]
  have e5 : (if nI 0 < nI (w % 4 + grace / 3) - nI 1 then nI (w % 4 + grace / 3) - nI 1 else nI 0) = nI (w % 4 + grace / 3 - 1) := ny_max0 (by omega) (by omega)
  have e6 : (if nI 1 < nI (w % 4) then nI 1 else nI (w % 4)) = nI (min 1 (w % 4)) := ny_min (by omega) (by omega)
  rw [e5]
  refine ⟨fun c => ?_, fun c => ?_, fun c => ?_, fun c => ?_, fun c => ?_, fun c1 c2 c3 c4 => ?_⟩ <;>
  · grind [ny_shw, Nat.min_def]
end NZC
