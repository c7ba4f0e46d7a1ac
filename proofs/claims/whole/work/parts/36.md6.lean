/-! the model: bells of the rest, on, when, faints -/
theorem nz_clt {x y : Int64} : lg_cmp x y < 0 ↔ x < y := by
  unfold lg_cmp
  by_cases h1 : x > y
  · rw [if_pos h1]
    exact ⟨fun h => absurd h (by decide), fun h => absurd (Int64.lt_trans h h1) Int64.lt_irrefl⟩
  · rw [if_neg h1]
    by_cases h2 : x = y
    · rw [if_pos h2]; exact ⟨fun h => absurd h (by decide), fun h => absurd (h2 ▸ h) Int64.lt_irrefl⟩
    · rw [if_neg h2]
      refine ⟨fun _ => ?_, fun _ => by decide⟩
      exact Int64.lt_of_le_of_ne (Int64.not_lt.mp h1) h2
theorem nz_cgt {x y : Int64} : 0 < lg_cmp x y ↔ y < x := by
  unfold lg_cmp
  by_cases h1 : x > y
  · rw [if_pos h1]
    exact ⟨fun _ => h1, fun _ => by decide⟩
  · rw [if_neg h1]
    by_cases h2 : x = y
    · rw [if_pos h2]; exact ⟨fun h => absurd h (by decide), fun h => absurd h h1⟩
    · rw [if_neg h2]; exact ⟨fun h => absurd h (by decide), fun h => absurd h h1⟩
/-- one bell of the rest -/
def nz_nb (a : ny_a) : ny_a := ny_goa a (ny_rst a)
/-- what so many bells are worth -/
def nz_onw (a : ny_a) : Nat → Nat
  | 0 => 0
  | n + 1 => if a 2 ≤ a 1 then 0 else ny_gow a (ny_rst a) + nz_onw (nz_nb a) n
/-- bells until P -/
def nz_til (P : ny_a → Bool) (a : ny_a) : Nat → ny_a
  | 0 => a
  | n + 1 => if P a then a else nz_til P (nz_nb a) n
def nz_whn (a : ny_a) (k : Nat) : Int32 :=
  if a (12 + 5 * k) = 1 then nI 4294967293 else
  if (nz_til (fun b => decide (b (12 + 5 * k) ≠ 0)) a (a 2 - a 1)) (12 + 5 * k) = 0 then nI 4294967293 else nI ((nz_til (fun b => decide (b (12 + 5 * k) ≠ 0)) a (a 2 - a 1)) 1) - nI 1
def nz_fnt (a : ny_a) (k : Nat) : Int32 :=
  if 60 ≤ (nz_til (fun b => decide (60 ≤ b (9 + 5 * k))) a (a 2 - a 1)) (9 + 5 * k) then nI ((nz_til (fun b => decide (60 ≤ b (9 + 5 * k))) a (a 2 - a 1)) 1) else nI 4294967293
theorem nz_rst_le (a : ny_a) : ny_rst a ≤ a 0 := by
  have := nz_rsf_le (a := a) (a 0) 0
  unfold ny_rst
  omega
theorem nz_nbV {a : ny_a} (hV : ny_V a) (hb : a 1 < a 2) : ny_V (nz_nb a) ∧ ny_Sm (nz_nb a) a ∧ nz_nb a 1 = a 1 + 1 := by
  have := nz_go hV (nz_rst_le a) hb
  exact ⟨this.2.1, this.2.2.1, this.2.2.2.1⟩
theorem nz_Sm0 {a' a : ny_a} (h : ny_Sm a' a) : a' 0 = a 0 ∧ a' 2 = a 2 ∧ ∀ j, 38 ≤ j → a' j = a j :=
  ⟨h 0 (by omega) (by omega) fun q hq => by omega, h 2 (by omega) (by omega) fun q hq => by omega, fun j hj => h j (by omega) (by omega) fun q hq => by omega⟩
theorem nz_onw_le {n : Nat} : ∀ {a : ny_a}, ny_V a → nz_onw a n ≤ 85 * n := by
  induction n with
  | zero => intro a _; exact Nat.zero_le _
  | succ n ih =>
    intro a hV
    rw [nz_onw]
    split
    · omega
    · next h =>
      have h1 := nz_go hV (nz_rst_le a) (by omega)
      have h2 := ih (nz_nbV hV (by omega)).1
      omega
theorem nz_tilV {P : ny_a → Bool} : ∀ n {a : ny_a}, ny_V a → a 1 + n ≤ a 2 → ny_V (nz_til P a n) ∧ ny_Sm (nz_til P a n) a := by
  intro n
  induction n with
  | zero => intro a hV _; exact ⟨hV, fun _ _ _ _ => rfl⟩
  | succ n ih =>
    intro a hV hb
    rw [nz_til]
    split
    · exact ⟨hV, fun _ _ _ _ => rfl⟩
    · obtain ⟨h1, h2, h3⟩ := nz_nbV hV (by omega)
      have h4 := nz_Sm0 h2
      obtain ⟨i1, i2⟩ := ih h1 (by omega)
      exact ⟨i1, nz_Sm_tr i2 h2⟩
/-- only the model's row and what it laid aside have changed; a is laid aside at k -/
def nz_as (k : Nat) (I' I : ny_I) (a : ny_a) : Prop := (∀ c, c ≠ 103 → c ≠ 105 → I' c = I c) ∧ (∀ j, j < 38 → I' 105 (38 * k + j) = nI (a j)) ∧ ∀ j, ¬ (38 * k ≤ j ∧ j < 38 * k + 38) → I' 105 j = I 105 j
/-- all is as it was, but for what was laid aside from place k on -/
def nz_af (k : Nat) (I' I : ny_I) (a : ny_a) : Prop := ny_Md I' a ∧ (∀ c, c ≠ 103 → c ≠ 105 → I' c = I c) ∧ ∀ j, j < 38 * k → I' 105 j = I 105 j
theorem nz_af_t {k : Nat} {I2 I1 I : ny_I} {a b : ny_a} (h2 : nz_af k I2 I1 a) (h1 : nz_af k I1 I b) : nz_af k I2 I a :=
  ⟨h2.1, fun c x y => (h2.2.1 c x y).trans (h1.2.1 c x y), fun j hj => (h2.2.2 j hj).trans (h1.2.2 j hj)⟩
theorem nz_af_r {k : Nat} {I : ny_I} {a : ny_a} (h : ny_Md I a) : nz_af k I I a := ⟨h, fun _ _ _ => rfl, fun _ _ => rfl⟩
theorem nz_as_m {k : Nat} {I2 I1 I : ny_I} {a : ny_a} (h : nz_as k I1 I a) (h2 : ∀ c, c ≠ 103 → I2 c = I1 c) : nz_as k I2 I a :=
  ⟨fun c x y => (h2 c x).trans (h.1 c x y), fun j hj => by rw [h2 105 (by decide)]; exact h.2.1 j hj, fun j hj => by rw [h2 105 (by decide)]; exact h.2.2 j hj⟩
section NZO
variable {d Ln : Nat} {I : ny_I} {Q : Int32 → ny_I → Prop} {Q0 : ny_I → Prop} {a : ny_a}
theorem q_Md_isIn {x y z : Int64} (h1 : y ≤ x → x ≤ z → Q (nI 1) I) (h0 : ¬ (y ≤ x ∧ x ≤ z) → Q (nI 0) I) : ny_C1 d m_Md_isIn [.long x, .long y, .long z] Ln I Q := by
  refine s_Md_isIn_0 ?_
  rw [nz_clt, nz_cgt]
  refine ⟨fun c => h0 fun q => absurd c (Int64.not_lt.mpr q.1), fun c => ⟨fun c2 => h0 fun q => absurd c2 (Int64.not_lt.mpr q.2), fun c2 => h1 (Int64.not_lt.mp c) (Int64.not_lt.mp c2)⟩⟩
theorem q_Md_laysAside {k : Nat} (ha : ny_Md I a) (hk : k < 5) (h : ∀ I', ny_Md I' a → nz_as k I' I a → Q0 I') : ny_C0 d m_Md_laysAside [.ref 102, .int (nI k)] Ln I Q0 := by
  refine s_Md_laysAside_0 ?_
  have key : ∀ n j I1, j + n = 38 → (∀ c, c ≠ 105 → I1 c = I c) → (∀ i, i < j → I1 105 (38 * k + i) = nI (a i)) → (∀ i, ¬ (38 * k ≤ i ∧ i < 38 * k + 38) → I1 105 i = I 105 i) → ny_g d m_Md_laysAside 2 [(0, .ref 102), (1, .int (nI k)), (2, .int (nI j))] [] Ln I1 (ny_r0 Ln Q0) := by
    intro n
    induction n with
    | zero =>
      intro j I1 hj h1 h2 h3
      refine s_Md_laysAside_2 ⟨fun _ => h I1 (fun i => by rw [h1 103 (by decide)]; exact ha i) ⟨fun c _ x => h1 c x, fun i hi => h2 i (by omega), h3⟩, fun c => ?_⟩
      rw [ny_lit, ny_le (by decide) (by omega)] at c
      omega
    | succ n ih =>
      intro j I1 hj h1 h2 h3
      refine s_Md_laysAside_2 ?_
      have e : 38 * k + j < 190 := by omega
      simp (disch := omega) only [ny_lit, nI_add, ny_mul, nI_clamp, ny_le, ny_lt, ny_eq, ny_div, ny_rem, ny_rem2, ny_inN, h1 103 (by decide), ha _, true_and]
      refine ⟨fun c => absurd c (by omega), fun _ => ih (j + 1) _ (by omega) (fun c x => by rw [ny_upne _ x]; exact h1 c x) (fun i hi => ?_) fun i hi => ?_⟩
      · rw [ny_upeq]
        unfold upd
        split
        · next q => rw [show i = j by omega]
        · exact h2 i (by omega)
      · rw [ny_upeq]
        unfold upd
        rw [if_neg (by omega)]
        exact h3 i hi
  exact key 38 0 I rfl (fun _ _ => rfl) (fun i hi => absurd hi (by omega)) (fun _ _ => rfl)
theorem q_Md_laysBack {k : Nat} {I0 : ny_I} {a' : ny_a} (ha : ny_Md I a') (hk : k < 5) (hs : ∀ j, 38 ≤ j → a' j = a j) (hA : nz_as k I I0 a) (h : ∀ I', nz_af k I' I0 a → (∀ j, I' 105 j = I 105 j) → Q0 I') : ny_C0 d m_Md_laysBack [.ref 102, .int (nI k)] Ln I Q0 := by
  refine s_Md_laysBack_0 ?_
  have key : ∀ n j I1, j + n = 38 → (∀ c, c ≠ 103 → I1 c = I c) → (∀ i, i < j → I1 103 i = nI (a i)) → (∀ i, 38 ≤ i → I1 103 i = nI (a' i)) → ny_g d m_Md_laysBack 2 [(0, .ref 102), (1, .int (nI k)), (2, .int (nI j))] [] Ln I1 (ny_r0 Ln Q0) := by
    intro n
    induction n with
    | zero =>
      intro j I1 hj h1 h2 h3
      refine s_Md_laysBack_2 ⟨fun _ => h I1 ⟨fun i => ?_, fun c x y => by rw [h1 c x]; exact hA.1 c x y, fun i hi => by rw [h1 105 (by decide)]; exact hA.2.2 i (by omega)⟩ fun i => by rw [h1 105 (by decide)], fun c => ?_⟩
      · rcases Nat.lt_or_ge i 38 with q | q
        · exact h2 i (by omega)
        · rw [h3 i q, hs i q]
      · rw [ny_lit, ny_le (by decide) (by omega)] at c
        omega
    | succ n ih =>
      intro j I1 hj h1 h2 h3
      refine s_Md_laysBack_2 ?_
      have e : 38 * k + j < 190 := by omega
      simp (disch := omega) only [ny_lit, nI_add, ny_mul, nI_clamp, ny_le, ny_lt, ny_eq, ny_div, ny_rem, ny_rem2, ny_inN, h1 105 (by decide), hA.2.1 j (by omega), true_and]
      refine ⟨fun c => absurd c (by omega), fun _ => ih (j + 1) _ (by omega) (fun c x => by rw [ny_upne _ x]; exact h1 c x) (fun i hi => ?_) fun i hi => ?_⟩
      · rw [ny_upeq]
        unfold upd
        split
        · next q => rw [q]
        · exact h2 i (by omega)
      · rw [ny_upeq]
        unfold upd
        rw [if_neg (by omega)]
        exact h3 i hi
  exact key 38 0 I rfl (fun _ _ => rfl) (fun i hi => absurd hi (by omega)) (fun i _ => ha i)
theorem q_Md_onBy {n : Nat} (ha : ny_Md I a) (hV : ny_V a) (hn : n ≤ 16) (h : ∀ I', nz_af 0 I' I a → Q (nI (nz_onw a n)) I') : ny_C1 (d + 6) m_Md_onBy [.ref 102, .int (nI n)] Ln I Q := by
  refine s_Md_onBy_0 (q_Md_laysAside ha (by decide) fun I1 ha1 hA1 => ?_)
  have fin : ∀ (a' : ny_a) (w : Nat) (I2 : ny_I), ny_Md I2 a' → ny_Sm a' a → nz_as 0 I2 I a → w = nz_onw a n → ny_g (d + 6) m_Md_onBy 38 [(0, .ref 102), (2, .int (nI w))] [] Ln I2 (ny_r1 Ln Q) := by
    intro a' w I2 h1 h2 h3 e
    refine s_Md_onBy_38 (q_Md_laysBack h1 (by decide) (nz_Sm0 h2).2.2 h3 fun I' h4 _ => ?_)
    rw [e]
    exact h I' h4
  have key : ∀ m i w (a' : ny_a) I2, i + m = n → ny_V a' → ny_Md I2 a' → ny_Sm a' a → nz_as 0 I2 I a → w + nz_onw a' m = nz_onw a n → ny_g (d + 6) m_Md_onBy 9 [(0, .ref 102), (1, .int (nI n)), (2, .int (nI w)), (3, .int (nI i))] [] Ln I2 (ny_r1 Ln Q) := by
    intro m
    induction m with
    | zero =>
      intro i w a' I2 hi hV' h1 h2 h3 e
      refine s_Md_onBy_9 ⟨fun _ => fin a' w I2 h1 h2 h3 e, fun c => ?_⟩
      rw [ny_le (by omega) (by omega)] at c
      omega
    | succ m ih =>
      intro i w a' I2 hi hV' h1 h2 h3 e
      have hr := nz_rst_le a'
      have hv := hV'.1
      have hb := nz_onw_le (n := n) hV
      refine s_Md_onBy_9 ⟨fun c => ?_, fun _ => q_Md_isOver h1 hV' ?_⟩
      · rw [ny_le (by omega) (by omega)] at c
        omega
      · rw [nz_onw] at e
        by_cases c : a' 2 ≤ a' 1
        · rw [if_pos c] at e ⊢
          exact ⟨fun _ => fin a' w I2 h1 h2 h3 e, fun q => absurd q (by decide)⟩
        · rw [if_neg c] at e ⊢
          refine ⟨fun q => absurd rfl q, fun _ => q_Md_restAct h1 hV' (q_Md_goesWith (d := d + 1) h1 hV' hr fun I3 h4 h5 => ?_)⟩
          have g := nz_nbV hV' (by omega)
          rw [nI_add, ny_lit, nI_add]
          refine ih (i + 1) _ (nz_nb a') I3 (by omega) g.1 h4 (nz_Sm_tr g.2.1 h2) (nz_as_m h3 h5) (by omega)
  exact key n 0 0 a I1 (by omega) hV ha1 (fun _ _ _ _ => rfl) hA1 (by omega)
theorem nz_i64 {x : Int32} {l n : Nat} (hl : l < 2 ^ 31) (hn : n < 2 ^ 31) : (lN l ≤ x.toInt64 ∧ x.toInt64 ≤ lN n) ↔ ∃ m, l ≤ m ∧ m ≤ n ∧ x = nI m := by
  rw [Int64.le_iff_toInt_le, Int64.le_iff_toInt_le, lN_toInt hl, lN_toInt hn, Int32.toInt_toInt64]
  constructor
  · rintro ⟨h1, h2⟩
    obtain ⟨j, hj, rfl⟩ := nI_of (x := x) (fun q => by
      rw [Int32.lt_iff_toInt_lt] at q
      have : (0 : Int32).toInt = 0 := by decide
      omega)
    rw [nI_toInt hj] at h1 h2
    exact ⟨j, by omega, by omega, rfl⟩
  · rintro ⟨m, h1, h2, rfl⟩
    rw [nI_toInt (by omega)]
    omega
/-- a number is in a range of small ones -/
theorem q_Md_in {x : Int32} {l n : Nat} {y z : Int64} (hy : y = lN l) (hz : z = lN n) (hl : l < 2 ^ 31) (hn : n < 2 ^ 31) (h1 : ∀ m, l ≤ m → m ≤ n → x = nI m → Q (nI 1) I) (h0 : (∀ m, l ≤ m → m ≤ n → x ≠ nI m) → Q (nI 0) I) : ny_C1 d m_Md_isIn [.long x.toInt64, .long y, .long z] Ln I Q := by
  subst hy hz
  refine q_Md_isIn (fun c1 c2 => ?_) fun c => h0 fun m a b e => c ((nz_i64 hl hn).mpr ⟨m, a, b, e⟩)
  obtain ⟨m, a, b, e⟩ := (nz_i64 hl hn).mp ⟨c1, c2⟩
  exact h1 m a b e
theorem q_Md_on {x : Int32} (ha : ny_Md I a) (hV : ny_V a) (h1 : ∀ n, n ≤ 16 → x = nI n → ∀ I', nz_af 0 I' I a → Q (nI (nz_onw a n)) I') (h0 : (∀ n, n ≤ 16 → x ≠ nI n) → Q (nI 4294967295) I) : ny_C1 (d + 7) m_Md_on [.ref 102, .int x] Ln I Q := by
  refine s_Md_on_0 (q_Md_in (l := 0) (n := 16) rfl rfl (by decide) (by decide) (fun n _ hn e => ?_) fun c => ⟨fun _ => ?_, fun q => absurd rfl q⟩)
  · subst e
    exact ⟨fun q => absurd q (by decide), fun _ => q_Md_onBy ha hV hn (h1 n hn rfl)⟩
  · rw [ny_m1]
    exact h0 fun n hn => c n (by omega) hn
theorem q_Md_when {x : Int32} (ha : ny_Md I a) (hV : ny_V a) (h1 : ∀ k, k < a 0 → x = nI k → ∀ I', nz_af 0 I' I a → Q (nz_whn a k) I') (h0 : (∀ k, k < a 0 → ¬ x = nI k) → Q (nI 4294967295) I) : ny_C1 (d + 6) m_Md_when [.ref 102, .int x] Ln I Q := by
  have V1 := hV.1; have V2 := hV.2.1; have V3 := hV.2.2.1; have V4 := hV.2.2.2.1; have V5 := hV.2.2.2.2.1; obtain ⟨v0, v1, v2, v3, v5, v6, v7⟩ := V1
  refine s_Md_when_0 (q_Md_isOne ha hV (fun k hk e => ?_) fun c => ⟨fun q => absurd rfl q, fun _ => ?_⟩)
  · subst e
    have hk6 : k < 6 := by omega
    refine ⟨fun _ => q_Md_t4 ha hk6 ?_, fun q => absurd q (by decide)⟩
    have U := V2 k hk6
    simp (disch := omega) only [ny_lit, nI_add, ny_mul, nI_clamp, ny_le, ny_lt, ny_eq, ny_div, ny_rem, ny_rem2, ny_inN]
    refine ⟨fun c4 => q_Md_laysAside ha (by decide) fun I1 ha1 hA1 => ?_, fun c4 => ?_⟩
    · have hend := h1 k hk rfl
      unfold nz_whn at hend
      rw [if_neg c4] at hend
      have fin : ∀ (a' : ny_a) (I2 : ny_I), ny_V a' → ny_Md I2 a' → ny_Sm a' a → nz_as 0 I2 I a → nz_til (fun b => decide (b (12 + 5 * k) ≠ 0)) a (a 2 - a 1) = a' → ny_g (d + 6) m_Md_when 56 [(0, .ref 102), (1, .int (nI k))] [] Ln I2 (ny_r1 Ln Q) := by
        intro a' I2 hV' h2 hS hA e
        rw [e] at hend
        have U' := hV'.2.1 k hk6
        have v' := hV'.1
        refine s_Md_when_56 (q_Md_t4 h2 hk6 ?_)
        simp (disch := omega) only [ny_lit, nI_add, ny_mul, nI_clamp, ny_le, ny_lt, ny_eq, ny_div, ny_rem, ny_rem2, ny_inN, h2 _, true_and]
        refine ⟨fun c => s_Md_when_78 (q_Md_laysBack h2 (by decide) (nz_Sm0 hS).2.2 hA fun I' h4 _ => ?_), fun c => s_Md_when_78 (q_Md_laysBack h2 (by decide) (nz_Sm0 hS).2.2 hA fun I' h4 _ => ?_)⟩
        · have := hend I' h4
          rw [if_neg c] at this
          exact this
        · have := hend I' h4
          rw [if_pos c] at this
          exact this
      have key : ∀ m (a' : ny_a) (I2 : ny_I), a' 1 + m = a' 2 → ny_V a' → ny_Md I2 a' → ny_Sm a' a → nz_as 0 I2 I a → nz_til (fun b => decide (b (12 + 5 * k) ≠ 0)) a (a 2 - a 1) = nz_til (fun b => decide (b (12 + 5 * k) ≠ 0)) a' m → ny_g (d + 6) m_Md_when 28 [(0, .ref 102), (1, .int (nI k))] [] Ln I2 (ny_r1 Ln Q) := by
        intro m
        induction m with
        | zero =>
          intro a' I2 hm hV' h2 hS hA e
          refine s_Md_when_28 (q_Md_isOver h2 hV' ?_)
          rw [if_pos (by omega)]
          exact ⟨fun _ => fin a' I2 hV' h2 hS hA e, fun q => absurd q (by decide)⟩
        | succ m ih =>
          intro a' I2 hm hV' h2 hS hA e
          have U' := hV'.2.1 k hk6
          refine s_Md_when_28 (q_Md_isOver h2 hV' ?_)
          rw [if_neg (by omega)]
          refine ⟨fun q => absurd rfl q, fun _ => q_Md_t4 h2 hk6 ?_⟩
          simp (disch := omega) only [ny_lit, nI_add, ny_mul, nI_clamp, ny_le, ny_lt, ny_eq, ny_div, ny_rem, ny_rem2, ny_inN]
          refine ⟨fun c => fin a' I2 hV' h2 hS hA ?_, fun c => ?_⟩
          · rw [e, nz_til, if_pos (by simpa using c)]
          · rw [nz_til, if_neg (by simpa using c)] at e
            refine q_Md_restAct h2 hV' (q_Md_goesWith (d := d + 1) h2 hV' (nz_rst_le a') fun I3 h4 h5 => ?_)
            have g := nz_nbV hV' (by omega)
            have g2 := nz_Sm0 g.2.1
            exact ih (nz_nb a') I3 (by omega) g.1 h4 (nz_Sm_tr g.2.1 hS) (nz_as_m hA h5) e
      exact key (a 2 - a 1) a I1 (by omega) hV ha1 (fun _ _ _ _ => rfl) hA1 rfl
    · have := h1 k hk rfl I (nz_af_r ha)
      unfold nz_whn at this
      rw [if_pos c4] at this
      exact this
  · rw [ny_m1]
    exact h0 c
theorem q_Md_faints {x : Int32} (ha : ny_Md I a) (hV : ny_V a) (h1 : ∀ k, k < a 0 → x = nI k → ∀ I', nz_af 0 I' I a → Q (nz_fnt a k) I') (h0 : (∀ k, k < a 0 → ¬ x = nI k) → Q (nI 4294967295) I) : ny_C1 (d + 6) m_Md_faints [.ref 102, .int x] Ln I Q := by
  have V1 := hV.1; have V2 := hV.2.1; have V3 := hV.2.2.1; have V4 := hV.2.2.2.1; have V5 := hV.2.2.2.2.1; obtain ⟨v0, v1, v2, v3, v5, v6, v7⟩ := V1
  refine s_Md_faints_0 (q_Md_isOne ha hV (fun k hk e => ?_) fun c => ⟨fun q => absurd rfl q, fun _ => ?_⟩)
  · subst e
    have hk6 : k < 6 := by omega
    refine ⟨fun _ => q_Md_laysAside ha (by decide) fun I1 ha1 hA1 => ?_, fun q => absurd q (by decide)⟩
    have hend := h1 k hk rfl
    unfold nz_fnt at hend
    have fin : ∀ (a' : ny_a) (I2 : ny_I), ny_V a' → ny_Md I2 a' → ny_Sm a' a → nz_as 0 I2 I a → nz_til (fun b => decide (60 ≤ b (9 + 5 * k))) a (a 2 - a 1) = a' → ny_g (d + 6) m_Md_faints 45 [(0, .ref 102), (1, .int (nI k))] [] Ln I2 (ny_r1 Ln Q) := by
      intro a' I2 hV' h2 hS hA e
      rw [e] at hend
      have U' := hV'.2.1 k hk6
      refine s_Md_faints_45 (q_Md_t1 h2 hk6 ?_)
      simp (disch := omega) only [ny_lit, nI_add, ny_mul, nI_clamp, ny_le, ny_lt, ny_eq, ny_div, ny_rem, ny_rem2, ny_inN, h2 _, true_and]
      refine ⟨fun c => s_Md_faints_67 (q_Md_laysBack h2 (by decide) (nz_Sm0 hS).2.2 hA fun I' h4 _ => ?_), fun c => s_Md_faints_67 (q_Md_laysBack h2 (by decide) (nz_Sm0 hS).2.2 hA fun I' h4 _ => ?_)⟩
      · have := hend I' h4
        rw [if_pos c] at this
        exact this
      · have := hend I' h4
        rw [if_neg c] at this
        exact this
    have key : ∀ m (a' : ny_a) (I2 : ny_I), a' 1 + m = a' 2 → ny_V a' → ny_Md I2 a' → ny_Sm a' a → nz_as 0 I2 I a → nz_til (fun b => decide (60 ≤ b (9 + 5 * k))) a (a 2 - a 1) = nz_til (fun b => decide (60 ≤ b (9 + 5 * k))) a' m → ny_g (d + 6) m_Md_faints 15 [(0, .ref 102), (1, .int (nI k))] [] Ln I2 (ny_r1 Ln Q) := by
      intro m
      induction m with
      | zero =>
        intro a' I2 hm hV' h2 hS hA e
        refine s_Md_faints_15 (q_Md_isOver h2 hV' ?_)
        rw [if_pos (by omega)]
        exact ⟨fun _ => fin a' I2 hV' h2 hS hA e, fun q => absurd q (by decide)⟩
      | succ m ih =>
        intro a' I2 hm hV' h2 hS hA e
        have U' := hV'.2.1 k hk6
        refine s_Md_faints_15 (q_Md_isOver h2 hV' ?_)
        rw [if_neg (by omega)]
        refine ⟨fun q => absurd rfl q, fun _ => q_Md_t1 h2 hk6 ?_⟩
        simp (disch := omega) only [ny_lit, nI_add, ny_mul, nI_clamp, ny_le, ny_lt, ny_eq, ny_div, ny_rem, ny_rem2, ny_inN]
        refine ⟨fun c => fin a' I2 hV' h2 hS hA ?_, fun c => ?_⟩
        · rw [e, nz_til, if_pos (by simpa using c)]
        · rw [nz_til, if_neg (by simpa using c)] at e
          refine q_Md_restAct h2 hV' (q_Md_goesWith (d := d + 1) h2 hV' (nz_rst_le a') fun I3 h4 h5 => ?_)
          have g := nz_nbV hV' (by omega)
          have g2 := nz_Sm0 g.2.1
          exact ih (nz_nb a') I3 (by omega) g.1 h4 (nz_Sm_tr g.2.1 hS) (nz_as_m hA h5) e
    exact key (a 2 - a 1) a I1 (by omega) hV ha1 (fun _ _ _ _ => rfl) hA1 rfl
  · rw [ny_m1]
    exact h0 c
end NZO
