/-! both: rows -/
def nz_bl (n : Nat) (x : Int32) : Option Nat := if ¬ x < 0 ∧ x < nI n then some x.toNatClampNeg else none
theorem nz_bl_s {n k : Nat} {x : Int32} (hn : n < 2 ^ 31) (hk : k < n) (e : x = nI k) : nz_bl n x = some k := by
  unfold nz_bl
  subst e
  rw [if_pos ⟨nI_pos (by omega), (ny_lt (by omega) (by omega)).mpr hk⟩, nI_clamp (by omega)]
theorem nz_bl_n {n : Nat} {x : Int32} (hn : n < 2 ^ 31) (h : ∀ k, k < n → ¬ x = nI k) : nz_bl n x = none := by
  unfold nz_bl
  rw [if_neg]
  rintro ⟨q1, q2⟩
  obtain ⟨j, hj, rfl⟩ := nI_of q1
  exact h j ((ny_lt hj (by omega)).mp q2) rfl
abbrev nz_rw : Type := Nat → Nat → Int32
def ny_RM (I : ny_I) (n : Nat) (r : nz_rw) : Prop := I 102 27 = nI n ∧ ∀ k, k < n → ∀ w, w < 3 → I 112 (3 * k + w) = r k w
def ny_RC (I : ny_I) (n : Nat) (r : nz_rw) : Prop := I 5 6 = nI n ∧ ∀ k, k < n → ∀ w, w < 3 → I (82 + k) w = r k w
def nz_ru (r : nz_rw) (k w : Nat) (v : Int32) : nz_rw := fun k' w' => if k' = k ∧ w' = w then v else r k' w'
def o_row (x y : Int32) (n : Nat) (r : nz_rw) : Int32 := match nz_bl n x, nz_in 0 2 y with
  | some k, some w => r k w
  | _, _ => nI 4294967287
def o_alterRow (x y v : Int32) (n : Nat) (r : nz_rw) : Int32 × nz_rw := match nz_bl n x, nz_in 0 2 y with
  | some k, some w => (r k w, nz_ru r k w v)
  | _, _ => (nI 4294967287, r)
def nz_jd (r : nz_rw) : Nat → Nat → ny_a → Int32
  | 0, _, _ => nI 0
  | m + 1, k, a => match nz_in 0 (a 0) (r k 0) with
    | some act => if a 2 ≤ a 1 then nI (k + 1) else if nI (ny_gow a act) = r k 1 ∧ nI (nz_msk (nz_L (ny_goa a act))) = r k 2 then nz_jd r m (k + 1) (ny_goa a act) else nI (k + 1)
    | none => nI (k + 1)
def o_judge (n : Nat) (r : nz_rw) (a : ny_a) : Int32 := nz_jd r n 0 a
theorem ny_m9 : (-9 : Int32) = nI 4294967287 := by decide +kernel
/-- the model: all but the numbers and the rows is as it was -/
def nz_mq0 (I' I : ny_I) : Prop := (∀ c, c < 102 ∨ c = 104 ∨ c = 106 ∨ 113 ≤ c → I' c = I c) ∧ ∀ j, j = 2 ∨ j = 5 ∨ j = 35 → I' 102 j = I 102 j
/-- the class: all but the basin and the rows is as it was -/
def nz_cq0 (I' I : ny_I) : Prop := (∀ q, q < 5 ∨ (30 ≤ q ∧ q < 67) ∨ 86 ≤ q → I' q = I q) ∧ ∀ j, j ≠ 6 → I' 5 j = I 5 j
section NZRW
variable {d Ln : Nat} {I : ny_I} {Q : Int32 → ny_I → Prop} {Q0 : ny_I → Prop} {a : ny_a}
/-- from 0 to a number less 1 -/
theorem q_Md_inL {x : Int32} {n : Nat} {y z : Int64} (hy : y = lN 0) (hz : z = (nI n - (1 : Int32)).toInt64) (hn : n < 2 ^ 30) (h1 : ∀ m, nz_bl n x = some m → m < n → x = nI m → Q (nI 1) I) (h0 : nz_bl n x = none → Q (nI 0) I) : ny_C1 d m_Md_isIn [.long x.toInt64, .long y, .long z] Ln I Q := by
  rcases Nat.eq_zero_or_pos n with e | e
  · subst e
    subst hz
    refine q_Md_isIn (fun c1 c2 => ?_) fun _ => h0 (nz_bl_n (by decide) fun k hk => absurd hk (by omega))
    subst hy
    exfalso
    rw [Int64.le_iff_toInt_le, show (nI 0 - (1 : Int32)).toInt64.toInt = -1 by decide +kernel] at c2
    rw [Int64.le_iff_toInt_le, show (lN 0).toInt = 0 by decide +kernel] at c1
    omega
  · obtain ⟨m, rfl⟩ : ∃ m, n = m + 1 := ⟨n - 1, by omega⟩
    rw [nI_pred, nI_l (by omega)] at hz
    exact q_Md_in hy hz (by decide) (by omega) (fun k _ hk ek => h1 k (nz_bl_s (by omega) (by omega) ek) (by omega) ek) fun h => h0 (nz_bl_n (by omega) fun k hk => h k (by omega) (by omega))
theorem q_Md_isRow {x y : Int32} {n : Nat} {r : nz_rw} (hR : ny_RM I n r) (hn : n ≤ 4) (h1 : ∀ k w, nz_bl n x = some k → nz_in 0 2 y = some w → k < n → w ≤ 2 → x = nI k → y = nI w → Q (nI 1) I) (h0 : (nz_bl n x = none ∨ nz_in 0 2 y = none) → Q (nI 0) I) : ny_C1 (d + 1) m_Md_isRow [.ref 102, .int x, .int y] Ln I Q := by
  refine s_Md_isRow_0 ?_
  rw [hR.1]
  refine q_Md_inL rfl rfl (by omega) (fun k ek hk ex => ⟨fun q => absurd q (by decide), fun _ => q_Md_I 0 2 rfl rfl (by decide) (by decide) (fun w ew _ hw ey => ⟨fun q => absurd q (by decide), fun _ => h1 k w ek ew hk hw ex ey⟩) (fun ew => ⟨fun _ => h0 (Or.inr ew), fun q => absurd rfl q⟩)⟩) (fun ek => ⟨fun _ => h0 (Or.inl ek), fun q => absurd rfl q⟩)
theorem nz_row_no {x y : Int32} {n : Nat} {r : nz_rw} (h : nz_bl n x = none ∨ nz_in 0 2 y = none) : o_row x y n r = nI 4294967287 ∧ ∀ v, o_alterRow x y v n r = (nI 4294967287, r) := by
  unfold o_row o_alterRow
  rcases h with h | h
  · rw [h]; exact ⟨rfl, fun _ => rfl⟩
  · rw [h]
    cases nz_bl n x <;> exact ⟨rfl, fun _ => rfl⟩
theorem q_Md_row {x y : Int32} {n : Nat} {r : nz_rw} (hR : ny_RM I n r) (hn : n ≤ 4) (h : Q (o_row x y n r) I) : ny_C1 (d + 2) m_Md_row [.ref 102, .int x, .int y] Ln I Q := by
  refine s_Md_row_0 (q_Md_isRow hR hn (fun k w ek ew hk hw ex ey => ⟨fun q => absurd q (by decide), fun _ => ?_⟩) fun e => ⟨fun _ => ?_, fun q => absurd rfl q⟩)
  · subst ex ey
    simp only [o_row, ek, ew] at h
    simp (disch := omega) only [ny_lit, nI_add, ny_mul, nI_clamp, ny_le, ny_lt, ny_eq, ny_div, ny_rem, ny_rem2, ny_inN, true_and]
    rw [hR.2 k hk w (by omega)]; exact h
  · rw [(nz_row_no e).1] at h
    rw [ny_m9]; exact h
theorem q_Md_alterRow {x y v : Int32} {n : Nat} {r : nz_rw} (hR : ny_RM I n r) (hn : n ≤ 4) (h : ∀ I', (∀ c, c ≠ 112 → I' c = I c) → ny_RM I' n (o_alterRow x y v n r).2 → Q (o_alterRow x y v n r).1 I') : ny_C1 (d + 2) m_Md_alterRow [.ref 102, .int x, .int y, .int v] Ln I Q := by
  refine s_Md_alterRow_0 (q_Md_isRow hR hn (fun k w ek ew hk hw ex ey => ⟨fun _ => ?_, fun q => absurd q (by decide)⟩) fun e => ⟨fun q => absurd rfl q, fun _ => ?_⟩)
  · subst ex ey
    simp only [o_alterRow, ek, ew] at h
    simp (disch := omega) only [ny_lit, nI_add, ny_mul, nI_clamp, ny_le, ny_lt, ny_eq, ny_div, ny_rem, ny_rem2, ny_inN, true_and]
    rw [hR.2 k hk w (by omega)]
    refine h _ (fun c x => ny_upne _ x _ _) ⟨by rw [ny_upne _ (by decide)]; exact hR.1, fun k' hk' w' hw' => ?_⟩
    rw [ny_upeq]
    unfold upd nz_ru
    by_cases e : k' = k ∧ w' = w
    · rw [if_pos (by omega), if_pos e]
    · rw [if_neg (by omega), if_neg e]; exact hR.2 k' hk' w' hw'
  · rw [(nz_row_no e).2 v] at h
    rw [ny_m9]; exact h I (fun _ _ => rfl) hR
theorem q_No_isInRow {x y : Int32} {n : Nat} {r : nz_rw} (hR : ny_RC I n r) (hn : n ≤ 4) (h1 : ∀ k w, nz_bl n x = some k → nz_in 0 2 y = some w → k < n → w ≤ 2 → x = nI k → y = nI w → Q (nI 1) I) (h0 : (nz_bl n x = none ∨ nz_in 0 2 y = none) → Q (nI 0) I) : ny_C1 (d + 1) m_No_isInRow [.ref 5, .int x, .int y] Ln I Q := by
  refine s_No_isInRow_0 ?_
  rw [hR.1]
  refine ⟨fun c => h0 (Or.inl (nz_bl_n (by omega) fun k hk e => ?_)), fun c => ?_⟩
  · rw [e] at c; exact nI_pos (by omega) c
  · obtain ⟨k, hk, rfl⟩ := nI_of c
    rw [ny_le (by omega) hk]
    refine ⟨fun c2 => h0 (Or.inl (nz_bl_n (by omega) fun k' hk' e => ?_)), fun c2 => q_No_I 0 2 rfl rfl (by decide) (by decide) (fun w ew _ hw ey => ⟨fun q => absurd q (by decide), fun _ => h1 k w (nz_bl_s (by omega) (by omega) rfl) ew (by omega) hw rfl ey⟩) (fun ew => ⟨fun _ => h0 (Or.inr ew), fun q => absurd rfl q⟩)⟩
    have := (ny_eq hk (by omega)).mp e
    omega
theorem q_No_row {x y : Int32} {n : Nat} {r : nz_rw} (hR : ny_RC I n r) (hn : n ≤ 4) (h : Q (o_row x y n r) I) : ny_C1 (d + 2) m_No_row [.ref 5, .int x, .int y] Ln I Q := by
  refine s_No_row_0 (q_No_isInRow hR hn (fun k w ek ew hk hw ex ey => ⟨fun q => absurd q (by decide), fun _ => ?_⟩) fun e => ⟨fun _ => ?_, fun q => absurd rfl q⟩)
  · subst ex ey
    simp only [o_row, ek, ew] at h
    simp (disch := omega) only [ny_lit, nI_add, ny_mul, nI_clamp, ny_le, ny_lt, ny_eq, ny_div, ny_rem, ny_rem2, ny_inN, true_and]
    refine s_No_row_a14 (by omega) ?_
    simp (disch := omega) only [ny_lit, nI_add, ny_mul, nI_clamp, ny_le, ny_lt, ny_eq, ny_div, ny_rem, ny_rem2, ny_inN, true_and]
    rw [show 82 + 1 * k = 82 + k by omega, hR.2 k hk w (by omega)]; exact h
  · rw [(nz_row_no e).1] at h
    rw [ny_m9]; exact h
theorem q_No_alterRow {x y v : Int32} {n : Nat} {r : nz_rw} (hR : ny_RC I n r) (hn : n ≤ 4) (h : ∀ I', (∀ c, c < 82 ∨ 85 < c → I' c = I c) → ny_RC I' n (o_alterRow x y v n r).2 → Q (o_alterRow x y v n r).1 I') : ny_C1 (d + 2) m_No_alterRow [.ref 5, .int x, .int y, .int v] Ln I Q := by
  refine s_No_alterRow_0 (q_No_isInRow hR hn (fun k w ek ew hk hw ex ey => ⟨fun q => absurd q (by decide), fun _ => ?_⟩) fun e => ⟨fun _ => ?_, fun q => absurd rfl q⟩)
  · subst ex ey
    simp only [o_alterRow, ek, ew] at h
    simp (disch := omega) only [ny_lit, nI_add, ny_mul, nI_clamp, ny_le, ny_lt, ny_eq, ny_div, ny_rem, ny_rem2, ny_inN, true_and]
    refine s_No_alterRow_a14 (by omega) (s_No_put_3_0 (by omega) ?_)
    simp (disch := omega) only [ny_lit, nI_clamp, ny_lt, ny_inN, true_and]
    refine ⟨fun c => absurd c (by omega), fun _ => ⟨fun _ => ?_, fun c => absurd (by omega) c⟩⟩
    rw [show 82 + 1 * k = 82 + k by omega, hR.2 k hk w (by omega)]
    refine h _ (fun c x => ny_upne _ (by omega) _ _) ⟨by rw [ny_upne _ (by omega)]; exact hR.1, fun k' hk' w' hw' => ?_⟩
    rw [ny_uprd]
    unfold nz_ru
    by_cases e : k' = k ∧ w' = w
    · rw [if_pos (by omega), if_pos e]
    · rw [if_neg (by omega), if_neg e]; exact hR.2 k' hk' w' hw'
  · rw [(nz_row_no e).2 v] at h
    rw [ny_m9]; exact h I (fun _ _ => rfl) hR
theorem q_Md_isAct {x : Int32} (ha : ny_Md I a) (hV : ny_V a) (h1 : ∀ m, nz_in 0 (a 0) x = some m → m ≤ a 0 → x = nI m → Q (nI 1) I) (h0 : nz_in 0 (a 0) x = none → Q (nI 0) I) : ny_C1 (d + 1) m_Md_isAct [.ref 102, .int x] Ln I Q := by
  have v := hV.1
  refine s_Md_isAct_0 ⟨rfl, ?_⟩
  rw [show I 103 (Int32.toNatClampNeg 0) = nI (a 0) from ha 0]
  exact q_Md_I 0 (a 0) rfl (nI_l (by omega)) (by decide) (by omega) (fun m e _ hm ex => ⟨Or.inr rfl, h1 m e hm ex⟩) fun e => ⟨Or.inl rfl, h0 e⟩
theorem q_Ba_isAct {x : Int32} (hB : ny_Ba I a) (hV : ny_V a) (h1 : ∀ m, nz_in 0 (a 0) x = some m → m ≤ a 0 → x = nI m → Q (nI 1) I) (h0 : nz_in 0 (a 0) x = none → Q (nI 0) I) : ny_C1 d m_Ba_isAct [.ref 6, .int x] Ln I Q := by
  have v := hV.1
  refine s_Ba_isAct_0 ?_
  rw [hB.1.1]
  refine ⟨fun c => h0 (nz_in_n (by decide) (by omega) fun m _ hm e => ?_), fun c => ?_⟩
  · rw [e] at c; exact nI_pos (by omega) c
  · obtain ⟨k, hk, rfl⟩ := nI_of c
    rw [ny_lt (by omega) hk]
    refine ⟨fun c2 => h0 (nz_in_n (by decide) (by omega) fun m _ hm e => ?_), fun c2 => h1 k (nz_in_s (by decide) (by omega) (by omega) (by omega) rfl) (by omega) rfl⟩
    have := (ny_eq hk (by omega)).mp e
    omega
theorem q_Md_judge {n : Nat} {r : nz_rw} (ha : ny_Md I a) (hV : ny_V a) (hR : ny_RM I n r) (hn : n ≤ 4) (h : ∀ I', nz_af 0 I' I a → Q (o_judge n r a) I') : ny_C1 (d + 6) m_Md_judge [.ref 102] Ln I Q := by
  refine s_Md_judge_0 (q_Md_laysAside ha (by decide) fun I1 ha1 hA1 => ?_)
  have h97 : ∀ (a' : ny_a) (k b : Nat) (I2 : ny_I), ny_Md I2 a' → (∀ j, 38 ≤ j → a' j = a j) → nz_as 0 I2 I a → b ≤ 1 → (if b = 0 then nI k else nI 0) = o_judge n r a → ny_g (d + 6) m_Md_judge 97 [(0, .ref 102), (1, .int (nI k)), (2, .int (nI b))] [] Ln I2 (ny_r1 Ln Q) := by
    intro a' k b I2 hM hs hA hb e
    refine s_Md_judge_97 (q_Md_laysBack hM (by decide) hs hA fun I' h4 _ => ?_)
    have := h I' h4
    rw [← e] at this
    simp (disch := omega) only [ny_lit, nI_add, ny_mul, nI_clamp, ny_le, ny_lt, ny_eq, ny_div, ny_rem, ny_rem2, ny_inN]
    refine ⟨fun c => ?_, fun c => ?_⟩
    · rw [if_pos c] at this; exact this
    · rw [if_neg c] at this; exact this
  have key : ∀ m k (a' : ny_a) (I2 : ny_I), k + m = n → ny_V a' → ny_Md I2 a' → ny_Sm a' a → nz_as 0 I2 I a → nz_jd r m k a' = o_judge n r a → ny_g (d + 6) m_Md_judge 9 [(0, .ref 102), (1, .int (nI k)), (2, .int (nI 1))] [] Ln I2 (ny_r1 Ln Q) := by
    intro m
    induction m with
    | zero =>
      intro k a' I2 hk hV' hM hS hA e
      have e27 : I2 102 27 = nI n := by rw [hA.1 102 (by decide) (by decide)]; exact hR.1
      refine s_Md_judge_9 ?_
      rw [e27]
      simp (disch := omega) only [ny_lit, nI_add, ny_mul, nI_clamp, ny_le, ny_lt, ny_eq, ny_div, ny_rem, ny_rem2, ny_inN]
      exact ⟨fun _ => h97 a' k 1 I2 hM (nz_Sm0 hS).2.2 hA (by decide) e, fun q => absurd q (by omega)⟩
    | succ m ih =>
      intro k a' I2 hk hV' hM hS hA e
      have e27 : I2 102 27 = nI n := by rw [hA.1 102 (by decide) (by decide)]; exact hR.1
      have e112 : ∀ w, w < 3 → I2 112 (3 * k + w) = r k w := fun w hw => by rw [hA.1 112 (by decide) (by decide)]; exact hR.2 k (by omega) w hw
      rw [nz_jd] at e
      -- wrong here
      have bad : ∀ (a2 : ny_a) (I3 : ny_I), ny_Md I3 a2 → (∀ j, 38 ≤ j → a2 j = a j) → nz_as 0 I3 I a → nI (k + 1) = o_judge n r a → ny_g (d + 6) m_Md_judge 9 [(0, .ref 102), (1, .int (nI (k + 1))), (2, .int (nI 0))] [] Ln I3 (ny_r1 Ln Q) := by
        intro a2 I3 h1 h2 h3 e2
        have e27 : I3 102 27 = nI n := by rw [h3.1 102 (by decide) (by decide)]; exact hR.1
        have fin := h97 a2 (k + 1) 0 I3 h1 h2 h3 (by decide) (by rw [if_pos rfl]; exact e2)
        refine s_Md_judge_9 ?_
        rw [e27]
        simp (disch := omega) only [ny_lit, nI_add, ny_mul, nI_clamp, ny_le, ny_lt, ny_eq, ny_div, ny_rem, ny_rem2, ny_inN]
        exact ⟨fun _ => fin, fun _ => ⟨fun _ => fin, fun q => absurd trivial q⟩⟩
      have hs := (nz_Sm0 hS).2.2
      have i0 := e112 0 (by decide)
      rw [Nat.add_zero] at i0
      refine s_Md_judge_9 ?_
      rw [e27]
      simp (disch := omega) only [ny_lit, nI_add, ny_mul, nI_clamp, ny_le, ny_lt, ny_eq, ny_div, ny_rem, ny_rem2, ny_inN, true_and, i0]
      refine ⟨fun q => absurd q (by omega), fun _ => ⟨fun q => absurd q (by decide), fun _ => q_Md_isAct (d := d + 4) hM hV' (fun act ea ha ex => ⟨fun q => absurd q (by decide), fun _ => q_Md_isOver hM hV' ?_⟩) fun ea => ⟨fun _ => bad a' I2 hM hs hA ?_, fun q => absurd rfl q⟩⟩⟩
      · rw [ea] at e
        dsimp only at e
        by_cases ov : a' 2 ≤ a' 1
        · rw [if_pos ov] at e ⊢
          exact ⟨fun _ => bad a' I2 hM hs hA e, fun q => absurd q (by decide)⟩
        · rw [if_neg ov] at e ⊢
          refine ⟨fun q => absurd rfl q, fun _ => ?_⟩
          rw [i0, ex]
          refine q_Md_goesWith (d := d + 1) hM hV' ha fun I3 h4 h5 => ?_
          have g := nz_go hV' ha (by omega)
          have hA3 := nz_as_m hA h5
          have hS3 := nz_Sm_tr g.2.2.1 hS
          rw [h5 112 (by decide), e112 1 (by decide)]
          refine ⟨fun c => bad _ I3 h4 (nz_Sm0 hS3).2.2 hA3 ?_, fun c => q_Md_relievedOnes (d := d + 4) h4 g.2.1 ?_⟩
          · rw [if_neg (fun q => c q.1)] at e; exact e
          · rw [h5 112 (by decide), e112 2 (by decide)]
            refine ⟨fun c2 => bad _ I3 h4 (nz_Sm0 hS3).2.2 hA3 ?_, fun c2 => ?_⟩
            · rw [if_neg (fun q => c2 q.2)] at e; exact e
            · rw [if_pos ⟨c, c2⟩] at e
              exact ih (k + 1) _ I3 (by omega) g.2.1 h4 hS3 hA3 e
      · rw [ea] at e; exact e
  exact key n 0 a I1 (by omega) hV ha1 (fun _ _ _ _ => rfl) hA1 rfl
theorem q_No_judge {n : Nat} {r : nz_rw} (hC : ny_Cl I a) (hV : ny_V a) (hR : ny_RC I n r) (hn : n ≤ 4) (h : ∀ I', nz_cf I' I a → Q (o_judge n r a) I') : ny_C1 (d + 5) m_No_judge [.ref 5] Ln I Q := by
  refine s_No_judge_0 (q_Ba_copyOfNow (d := d + 3) hC.2.1 hV fun I1 hF1 hM1 => ⟨rfl, ?_⟩)
  have key : ∀ m k (a' : ny_a) (I2 : ny_I), k + m = n → ny_V a' → ny_Ba I2 a' → ny_Mo I2 28 a' → nz_fr 28 I2 I → nz_jd r m k a' = o_judge n r a → ny_g (d + 5) m_No_judge 10 [(0, .ref 5), (1, .ref 28), (2, .int (nI k))] [] Ln I2 (ny_r1 Ln Q) := by
    intro m
    induction m with
    | zero =>
      intro k a' I2 hk hV' hB hM hF e
      have e6 : I2 5 6 = nI n := by rw [hF.1 5 (by decide) (by decide) (by decide)]; exact hR.1
      refine s_No_judge_10 ?_
      rw [e6]
      simp (disch := omega) only [ny_lit, nI_add, ny_mul, nI_clamp, ny_le, ny_lt, ny_eq, ny_div, ny_rem, ny_rem2, ny_inN]
      refine ⟨fun _ => ?_, fun q => absurd q (by omega)⟩
      have := h I2 (nz_cf_28 hC hV hF)
      rw [← e] at this
      exact this
    | succ m ih =>
      intro k a' I2 hk hV' hB hM hF e
      have e6 : I2 5 6 = nI n := by rw [hF.1 5 (by decide) (by decide) (by decide)]; exact hR.1
      have ew : ∀ (I3 : ny_I), nz_fr 28 I3 I → ∀ w, w < 3 → I3 (82 + k) w = r k w := fun I3 hF3 w hw => by rw [hF3.1 (82 + k) (by omega) (by omega) (by omega)]; exact hR.2 k (by omega) w hw
      rw [nz_jd] at e
      have bad : ∀ (I3 : ny_I), nz_fr 28 I3 I → nI (k + 1) = o_judge n r a → Q (nI (k + 1)) I3 := by
        intro I3 h3 e2
        rw [e2]; exact h I3 (nz_cf_28 hC hV h3)
      have e0 : Int32.toNatClampNeg 0 = 0 := rfl
      have e1 : Int32.toNatClampNeg 1 = 1 := rfl
      have e2 : Int32.toNatClampNeg 2 = 2 := rfl
      have en : nI k + (1 : Int32) = nI (k + 1) := nI_add k 1
      refine s_No_judge_10 ?_
      rw [e6]
      simp (disch := omega) only [ny_lit, nI_add, ny_mul, nI_clamp, ny_le, ny_lt, ny_eq, ny_div, ny_rem, ny_rem2, ny_inN, true_and]
      refine ⟨fun q => absurd q (by omega), fun _ => s_No_judge_a23 (by omega) (q_Ba_isOver nz_m28 hB hM hV' ?_)⟩
      rw [show 82 + 1 * k = 82 + k by omega, e0, e1, e2, en]
      by_cases ov : a' 2 ≤ a' 1
      · rw [if_pos ov]
        refine ⟨fun _ => bad I2 hF ?_, fun q => absurd q (by decide)⟩
        cases ea : nz_in 0 (a' 0) (r k 0) with
        | none => rw [ea] at e; exact e
        | some act =>
          rw [ea] at e
          dsimp only at e
          rw [if_pos ov] at e; exact e
      · rw [if_neg ov]
        refine ⟨fun q => absurd rfl q, fun _ => ⟨rfl, ?_⟩⟩
        rw [ew I2 hF 0 (by decide)]
        refine q_Ba_isAct hB hV' (fun act ea ha ex => ⟨fun q => absurd q (by decide), fun _ => ⟨rfl, ?_⟩⟩) fun ea => ⟨fun _ => bad I2 hF ?_, fun q => absurd rfl q⟩
        · rw [ea] at e
          dsimp only at e
          rw [if_neg ov] at e
          rw [ew I2 hF 0 (by decide), ex]
          refine q_Ba_goBy (d := d + 1) nz_m28 hB hM hV' ha fun I3 hF3 hM3 => ⟨rfl, ?_⟩
          have g := nz_go hV' ha (by omega)
          have hF3' := nz_Fr_t hF3 hF
          rw [ew I3 hF3' 1 (by decide)]
          refine ⟨fun c => bad I3 hF3' ?_, fun c => ⟨rfl, ?_⟩⟩
          · rw [if_neg (fun q => c q.1)] at e; exact e
          · obtain ⟨m1, m2, mm, m3, m4, m5⟩ := id hM3
            rw [ew I3 hF3' 2 (by decide), m4, nz_msk_e (s := nz_L (ny_goa a' act)) ⟨m3, fun q hq => m5 q hq⟩]
            refine ⟨fun c2 => ?_, fun c2 => bad I3 hF3' ?_⟩
            · rw [if_pos ⟨c, c2⟩] at e
              exact ih (k + 1) _ I3 (by omega) g.2.1 (nz_Ba_mv nz_m28 hF3 g.2.2.1 hV' hB) hM3 hF3' e
            · rw [if_neg (fun q => c2 q.2)] at e; exact e
        · rw [ea] at e; exact e
  exact key n 0 a I1 (by omega) hV (nz_Ba_mv nz_m28 hF1 (fun _ _ _ _ => rfl) hV hC.1) hM1 hF1 rfl
end NZRW
