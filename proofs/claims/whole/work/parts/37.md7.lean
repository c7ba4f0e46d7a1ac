/-! the model: rank, the best grace, the best niche -/
def nz_ahd (a : ny_a) (x o : Nat) : Bool := (decide (a (9 + 5 * x) < a (9 + 5 * o)) || (decide (a (9 + 5 * o) = a (9 + 5 * x)) && decide (o < x))) && ny_upb a o
def nz_rnk (a : ny_a) (x : Nat) : Nat → Nat → Nat
  | _, 0 => 0
  | o, n + 1 => (if nz_ahd a x o then 1 else 0) + nz_rnk a x (o + 1) n
theorem nz_rnk_le {a : ny_a} {x : Nat} : ∀ n o, nz_rnk a x o n ≤ n := by
  intro n
  induction n with
  | zero => intro o; exact Nat.le_refl _
  | succ n ih =>
    intro o
    rw [nz_rnk]
    have := ih (o + 1)
    split <;> omega
/-- place i takes v on from 0: what is best -/
def nz_bst (a : ny_a) (i : Nat) : Nat → Nat → Nat → Int32 → Nat
  | 0, _, best, _ => best
  | n + 1, v, best, most => if nI (nz_onw (ny_au a i v) 16) ≤ most then nz_bst a i n (v + 1) best most else nz_bst a i n (v + 1) v (nI (nz_onw (ny_au a i v) 16))
def nz_vfr (a : ny_a) (i top : Nat) : Nat := nz_bst a i (top + 1) 0 0 (nI 4294967295)
theorem nz_V_up {a : ny_a} (hV : ny_V a) {k w v : Nat} (hk : k < 6) (hw : w = 2 ∧ v ≤ 9 ∨ w = 3 ∧ v ≤ 5) : ny_V (ny_au a (8 + 5 * k + w) v) := by
  obtain ⟨⟨v0, v1, v2, v3, v5, v6, v7⟩, V2, V3, V4, V5, V6, V7, V8⟩ := hV
  have e : ∀ j, j ≠ 8 + 5 * k + w → ny_au a (8 + 5 * k + w) v j = a j := fun j hj => nz_au_ne hj
  have eh : ∀ j, 38 ≤ j → ny_au a (8 + 5 * k + w) v j = a j := fun j h => e j (by omega)
  refine ⟨?_, fun q hq => ?_, fun q hq => ?_, fun f hf => ?_, fun b hb => ?_, fun r hr => ?_, fun r hr => ?_, fun i hi => ?_⟩
  · rw [e 0 (by omega), e 1 (by omega), e 2 (by omega), e 5 (by omega), e 6 (by omega), e 7 (by omega)]
    exact ⟨v0, v1, v2, v3, v5, v6, v7⟩
  · have := V2 q hq
    rw [e (8 + 5 * q) (by omega), e (9 + 5 * q) (by omega), e (12 + 5 * q) (by omega)]
    refine ⟨this.1, this.2.1, ?_, ?_, this.2.2.2.2⟩
    · by_cases c : 10 + 5 * q = 8 + 5 * k + w
      · rw [c, nz_au_eq]; omega
      · rw [e _ c]; exact this.2.2.1
    · by_cases c : 11 + 5 * q = 8 + 5 * k + w
      · rw [c, nz_au_eq]; omega
      · rw [e _ c]; exact this.2.2.2.1
  · rw [e 0 (by omega)] at hq
    rw [e (8 + 5 * q) (by omega)]
    exact V3 q hq
  · rw [eh _ (by omega), eh _ (by omega)]; exact V4 f hf
  · rw [eh _ (by omega)]; exact V5 b hb
  · rw [e 5 (by omega)] at hr
    rw [eh _ (by omega), eh _ (by omega), eh _ (by omega), eh _ (by omega), e 7 (by omega), eh _ (by omega)]
    obtain ⟨w1, w2, w3, w4, w5, w6⟩ := V6 r hr
    refine ⟨w1, w2, w3, w4, w5, fun j hj => ?_⟩
    rw [nz_dp_c (a := a) (fun j hj => eh j (by omega))]
    exact w6 j hj
  · rw [e 6 (by omega)] at hr
    rw [eh _ (by omega), eh _ (by omega), eh _ (by omega), eh _ (by omega)]; exact V7 r hr
  · rw [e 7 (by omega)] at hi
    rw [eh _ (by omega), eh _ (by omega), eh _ (by omega)]; exact V8 i hi
theorem nz_au_self {a : ny_a} {i v : Nat} (h : a i = v) : ny_au a i v = a := by
  funext j
  unfold ny_au
  split
  · next e => rw [e, h]
  · rfl
theorem nz_mx1 {x y : Int32} (h : x ≤ y) : (if x < y then y else x) = y := by
  by_cases c : x < y
  · rw [if_pos c]
  · rw [if_neg c]; exact Int32.le_antisymm h (Int32.not_lt.mp c)
theorem nz_au_au (a : ny_a) (i u v : Nat) : ny_au (ny_au a i u) i v = ny_au a i v := by
  funext j
  unfold ny_au
  split <;> rfl
section NZR
variable {d Ln : Nat} {I : ny_I} {Q : Int32 → ny_I → Prop} {Q0 : ny_I → Prop} {a : ny_a}
theorem q_Md_rank {x : Int32} (ha : ny_Md I a) (hV : ny_V a) (h1 : ∀ k, k < a 0 → x = nI k → Q (if ny_upb a k then nI (nz_rnk a k 0 (a 0)) else nI 4294967293) I) (h0 : (∀ k, k < a 0 → ¬ x = nI k) → Q (nI 4294967295) I) : ny_C1 (d + 2) m_Md_rank [.ref 102, .int x] Ln I Q := by
  have V1 := hV.1; have V2 := hV.2.1; have V3 := hV.2.2.1; have V4 := hV.2.2.2.1; have V5 := hV.2.2.2.2.1; obtain ⟨v0, v1, v2, v3, v5, v6, v7⟩ := V1
  refine s_Md_rank_0 (q_Md_isOne ha hV (fun k hk e => ?_) fun c => ⟨fun q => absurd rfl q, fun _ => ?_⟩)
  · subst e
    have hk6 : k < 6 := by omega
    have U := V2 k hk6
    refine ⟨fun _ => q_Md_isUp ha hV hk6 ?_, fun q => absurd q (by decide)⟩
    have hend := h1 k hk rfl
    by_cases hu : ny_upb a k = true
    · rw [if_pos hu] at hend ⊢
      refine ⟨fun _ => ?_, fun q => absurd q (by decide)⟩
      have key : ∀ n o c, o + n = a 0 → c + nz_rnk a k o n = nz_rnk a k 0 (a 0) → ny_g (d + 2) m_Md_rank 25 [(0, .ref 102), (1, .int (nI k)), (2, .int (nI c)), (3, .int (nI o))] [] Ln I (ny_r1 Ln Q) := by
        intro n
        induction n with
        | zero =>
          intro o c ho e
          rw [nz_rnk, Nat.add_zero] at e
          subst e
          refine s_Md_rank_25 ?_
          simp (disch := omega) only [ny_lit, nI_add, ny_mul, nI_clamp, ny_le, ny_lt, ny_eq, ny_div, ny_rem, ny_rem2, ny_inN, ha _, true_and]
          exact ⟨fun _ => hend, fun q => absurd q (by omega)⟩
        | succ n ih =>
          intro o c ho e
          have hb := nz_rnk_le (a := a) (x := k) (a 0) 0
          have U2 := V2 o (by omega)
          rw [nz_rnk] at e
          have h75 : ∀ b : Bool, b = (decide (a (9 + 5 * k) < a (9 + 5 * o)) || (decide (a (9 + 5 * o) = a (9 + 5 * k)) && decide (o < k))) → ny_g (d + 2) m_Md_rank 75 [(0, .ref 102), (1, .int (nI k)), (2, .int (nI c)), (3, .int (nI o))] [.int (if b then nI 1 else nI 0)] Ln I (ny_r1 Ln Q) := by
            intro b hb
            unfold nz_ahd at e
            rw [← hb] at e
            refine s_Md_rank_75 (q_Md_isUp ha hV (by omega) ?_)
            rw [ny_lit, ny_lit, nI_add, nI_add, nI_add]
            by_cases c1 : ny_upb a o = true
            · rw [c1] at e ⊢
              rw [if_pos rfl]
              refine ⟨fun q => absurd q (by decide), fun _ => ⟨fun q => ?_, fun q => ?_⟩⟩
              · have : b = false := by
                  cases b
                  · rfl
                  · exact absurd q (by decide)
                subst this
                exact ih (o + 1) _ (by omega) (by simpa using e)
              · have : b = true := by
                  cases b
                  · exact absurd rfl q
                  · rfl
                subst this
                refine ih (o + 1) _ (by omega) ?_
                simp only [Bool.and_self, if_pos] at e
                omega
            · rw [if_neg c1]
              rw [if_neg (by simp [c1])] at e
              exact ⟨fun _ => ih (o + 1) _ (by omega) (by omega), fun q => absurd rfl q⟩
          refine s_Md_rank_25 ?_
          simp (disch := omega) only [ny_lit, nI_add, ny_mul, nI_clamp, ny_le, ny_lt, ny_eq, ny_div, ny_rem, ny_rem2, ny_inN, ha _, true_and]
          refine ⟨fun q => absurd q (by omega), fun _ => q_Md_t1 ha (by omega) (q_Md_t1 ha hk6 ?_)⟩
          simp (disch := omega) only [ny_lit, nI_add, ny_mul, nI_clamp, ny_le, ny_lt, ny_eq, ny_div, ny_rem, ny_rem2, ny_inN]
          refine ⟨fun c1 => ?_, fun c1 => q_Md_t1 ha (by omega) (q_Md_t1 ha hk6 ?_)⟩
          · exact h75 true (by simp [c1])
          · simp (disch := omega) only [ny_lit, nI_add, ny_mul, nI_clamp, ny_le, ny_lt, ny_eq, ny_div, ny_rem, ny_rem2, ny_inN]
            refine ⟨fun c2 => ?_, fun c2 => ⟨fun c3 => ?_, fun c3 => ?_⟩⟩
            · exact h75 false (by simp [c1, c2])
            · exact h75 false (by simp [c1]; omega)
            · exact h75 true (by simp [c2]; omega)
      exact key (a 0) 0 0 (by omega) (by omega)
    · rw [if_neg hu] at hend ⊢
      exact ⟨fun q => absurd rfl q, fun _ => hend⟩
  · rw [ny_m1]
    exact h0 c
theorem q_Md_valueFor {k w top : Nat} (ha : ny_Md I a) (hV : ny_V a) (hk : k < 6) (hw : w = 2 ∧ top = 9 ∨ w = 3 ∧ top = 5) (h : ∀ I', nz_af 0 I' I a → Q (nI (nz_vfr a (8 + 5 * k + w) top)) I') : ny_C1 (d + 7) m_Md_valueFor [.ref 102, .int (nI k), .int (nI w)] Ln I Q := by
  refine s_Md_valueFor_0 ?_
  simp (disch := omega) only [ny_lit, nI_add, ny_mul, nI_clamp, ny_le, ny_lt, ny_eq, ny_div, ny_rem, ny_rem2, ny_inN, ha _, true_and]
  have U := hV.2.1 k hk
  have ha8 : a (8 + 5 * k + w) < 2 ^ 30 := by
    rcases hw with ⟨rfl, -⟩ | ⟨rfl, -⟩
    · rw [show 8 + 5 * k + 2 = 10 + 5 * k by omega]; omega
    · rw [show 8 + 5 * k + 3 = 11 + 5 * k by omega]; omega
  have gr : ∀ (I1 : ny_I) (Q1 : Int32 → ny_I → Prop), Q1 (nI top) I1 → ny_C1 (d + 6) m_Md_greatestOf [.int (nI w)] Ln I1 Q1 := by
    intro I1 Q1 hq
    refine s_Md_greatestOf_0 ?_
    simp (disch := omega) only [ny_lit, nI_add, ny_mul, nI_clamp, ny_le, ny_lt, ny_eq, ny_div, ny_rem, ny_rem2, ny_inN]
    rcases hw with ⟨rfl, rfl⟩ | ⟨rfl, rfl⟩
    · exact ⟨fun _ => ⟨fun q => absurd rfl q, fun _ => hq⟩, fun q => absurd q (by decide)⟩
    · exact ⟨fun _ => ⟨fun _ => ⟨fun q => absurd rfl q, fun _ => hq⟩, fun q => absurd q (by decide)⟩, fun q => absurd q (by decide)⟩
  have key : ∀ n v best most u (I1 : ny_I), v + n = top + 1 → best < 2 ^ 30 → nz_af 0 I1 I (ny_au a (8 + 5 * k + w) u) → nz_bst a (8 + 5 * k + w) n v best most = nz_vfr a (8 + 5 * k + w) top → ny_g (d + 7) m_Md_valueFor 26 [(0, .ref 102), (2, .int (nI w)), (3, .int (nI (8 + 5 * k + w))), (4, .int (nI (a (8 + 5 * k + w)))), (5, .int (nI best)), (6, .int most), (7, .int (nI v))] [] Ln I1 (ny_r1 Ln Q) := by
    intro n
    induction n with
    | zero =>
      intro v best most u I1 hv hb hA e
      refine s_Md_valueFor_26 (gr _ _ ?_)
      simp (disch := omega) only [ny_lit, nI_add, ny_mul, nI_clamp, ny_le, ny_lt, ny_eq, ny_div, ny_rem, ny_rem2, ny_inN, true_and]
      refine ⟨fun _ => ?_, fun q => absurd q (by omega)⟩
      rw [nz_bst] at e
      rw [e]
      refine h _ ⟨?_, fun c x y => ?_, fun j hj => absurd hj (by omega)⟩
      · have := nz_Md_up hA.1 (8 + 5 * k + w) (a (8 + 5 * k + w))
        rw [nz_au_au, nz_au_self rfl] at this
        exact this
      · rw [ny_upne _ x]; exact hA.2.1 c x y
    | succ n ih =>
      intro v best most u I1 hv hb hA e
      rw [nz_bst] at e
      refine s_Md_valueFor_26 (gr _ _ ?_)
      simp (disch := omega) only [ny_lit, nI_add, ny_mul, nI_clamp, ny_le, ny_lt, ny_eq, ny_div, ny_rem, ny_rem2, ny_inN, true_and]
      refine ⟨fun q => absurd q (by omega), fun _ => ?_⟩
      have hM := nz_Md_up hA.1 (8 + 5 * k + w) v
      rw [nz_au_au] at hM
      refine q_Md_onBy hM (nz_V_up hV hk (by omega)) (by decide) fun I3 h3 => ?_
      have hA3 : nz_af 0 I3 I (ny_au a (8 + 5 * k + w) v) := ⟨h3.1, fun c x y => by rw [h3.2.1 c x y, ny_upne _ x]; exact hA.2.1 c x y, fun j hj => absurd hj (by omega)⟩
      refine ⟨fun c => s_Md_valueFor_65 (q_Md_greatest ?_), fun c => s_Md_valueFor_65 (q_Md_greatest ?_)⟩
      · rw [if_pos c] at e
        rw [nz_mx1 c, ny_lit, nI_add]
        exact ih (v + 1) best most v I3 (by omega) hb hA3 e
      · rw [if_neg c] at e
        rw [if_neg (fun q => c (Int32.le_of_lt q)), ny_lit, nI_add]
        exact ih (v + 1) v _ v I3 (by omega) (by omega) hA3 e
  exact key (top + 1) 0 0 _ (a (8 + 5 * k + w)) I (by omega) (by decide) (by rw [nz_au_self rfl]; exact nz_af_r ha) rfl
theorem q_Md_graceFor {x : Int32} (ha : ny_Md I a) (hV : ny_V a) (h1 : ∀ k, k < a 0 → x = nI k → ∀ I', nz_af 0 I' I a → Q (nI (nz_vfr a (10 + 5 * k) 9)) I') (h0 : (∀ k, k < a 0 → ¬ x = nI k) → Q (nI 4294967295) I) : ny_C1 (d + 8) m_Md_graceFor [.ref 102, .int x] Ln I Q := by
  have V1 := hV.1; have V2 := hV.2.1; have V3 := hV.2.2.1; have V4 := hV.2.2.2.1; have V5 := hV.2.2.2.2.1; obtain ⟨v0, v1, v2, v3, v5, v6, v7⟩ := V1
  refine s_Md_graceFor_0 (q_Md_isOne ha hV (fun k hk e => ?_) fun c => ⟨fun _ => ?_, fun q => absurd rfl q⟩)
  · subst e
    refine ⟨fun q => absurd q (by decide), fun _ => q_Md_valueFor ha hV (by omega) (Or.inl ⟨rfl, rfl⟩) fun I' hA => ?_⟩
    rw [show 8 + 5 * k + 2 = 10 + 5 * k by omega]
    exact h1 k hk rfl I' hA
  · rw [ny_m1]; exact h0 c
theorem q_Md_nicheFor {x : Int32} (ha : ny_Md I a) (hV : ny_V a) (h1 : ∀ k, k < a 0 → x = nI k → ∀ I', nz_af 0 I' I a → Q (nI (nz_vfr a (11 + 5 * k) 5)) I') (h0 : (∀ k, k < a 0 → ¬ x = nI k) → Q (nI 4294967295) I) : ny_C1 (d + 8) m_Md_nicheFor [.ref 102, .int x] Ln I Q := by
  have V1 := hV.1; have V2 := hV.2.1; have V3 := hV.2.2.1; have V4 := hV.2.2.2.1; have V5 := hV.2.2.2.2.1; obtain ⟨v0, v1, v2, v3, v5, v6, v7⟩ := V1
  refine s_Md_nicheFor_0 (q_Md_isOne ha hV (fun k hk e => ?_) fun c => ⟨fun _ => ?_, fun q => absurd rfl q⟩)
  · subst e
    refine ⟨fun q => absurd q (by decide), fun _ => q_Md_valueFor ha hV (by omega) (Or.inr ⟨rfl, rfl⟩) fun I' hA => ?_⟩
    rw [show 8 + 5 * k + 3 = 11 + 5 * k by omega]
    exact h1 k hk rfl I' hA
  · rw [ny_m1]; exact h0 c
end NZR
