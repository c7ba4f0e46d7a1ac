/-! the class: rules -/
theorem nt_ra_o {a : ny_a} {k w s j : Nat} (h5 : j ≠ 5) (h : j < 66 + 4 * a 5 ∨ 70 + 4 * a 5 ≤ j) : nt_ra a k w s j = a j := by
  unfold nt_ra
  rw [if_neg h5, if_neg (by omega), if_neg (by omega), if_neg (by omega), if_neg (by omega)]
theorem nt_ra_5 {a : ny_a} {k w s : Nat} : nt_ra a k w s 5 = a 5 + 1 := rfl
theorem nt_ra_n {a : ny_a} {k w s : Nat} : nt_ra a k w s (66 + 4 * a 5) = k ∧ nt_ra a k w s (67 + 4 * a 5) = w ∧ nt_ra a k w s (68 + 4 * a 5) = s ∧ nt_ra a k w s (69 + 4 * a 5) = a 7 := by
  unfold nt_ra
  refine ⟨?_, ?_, ?_, ?_⟩
  · rw [if_neg (by omega), if_pos rfl]
  · rw [if_neg (by omega), if_neg (by omega), if_pos rfl]
  · rw [if_neg (by omega), if_neg (by omega), if_neg (by omega), if_pos rfl]
  · rw [if_neg (by omega), if_neg (by omega), if_neg (by omega), if_neg (by omega), if_pos rfl]
/-- what a rule's condition leaves -/
theorem nt_cnd_ok {T : Nat} {b : Nat → Nat} {p q : Nat} {a a1 : ny_a} (h : (if nt_ty T b (nt_nx T b p) = 14 then nt_cd T b 3 (nt_nx T b (nt_nx T b p)) a else (nt_nx T b p, some a)) = (q, some a1)) (hp : p ≤ T) (hpT : p < T) : p + 1 ≤ q ∧ q ≤ T ∧ (∃ D, nt_ex a a1 D 9) ∧ 2 * a1 7 + p ≤ q + 2 * a 7 := by
  have h1 := nt_nx_lt (b := b) hpT
  have h2 := nt_nx_le (b := b) hp
  split at h
  · obtain ⟨g1, g2, g3, g4⟩ := nt_cd_ok 3 _ _ _ _ h (nt_nx_le h2)
    have := nt_nx_ge (T := T) (b := b) (p := nt_nx T b p)
    exact ⟨by omega, g2, ⟨1, g3⟩, by omega⟩
  · obtain ⟨e1, e2⟩ := nt_pw (0, none) h
    rw [← e1, ← e2]
    exact ⟨h1, h2, ⟨0, nt_ex_m (nt_ex_r a) (by omega)⟩, by omega⟩
/-- the numbers between two rules -/
def nt_I (a : ny_a) (p T : Nat) : Prop := ny_V a ∧ 2 * a 7 ≤ p ∧ p ≤ T ∧ a 7 = if a 5 = 0 then 0 else a (65 + 4 * a 5)
def nt_un (j : Nat) : Prop := j ≠ 5 ∧ j ≠ 7 ∧ (j < 66 ∨ (98 ≤ j ∧ j < 122) ∨ 572 ≤ j)
theorem nt_ru_I {T : Nat} {b : Nat → Nat} {p q : Nat} {a a' : ny_a} (hT : T ≤ 200) (hI : nt_I a p T) (h : nt_ru T b p a = (q, some a')) : nt_I a' q T ∧ p + 1 ≤ q ∧ a' 5 = a 5 + 1 ∧ ∀ j, nt_un j → a' j = a j := by
  obtain ⟨hV, i2, i3, i4⟩ := hI
  unfold nt_ru at h
  split at h
  · rename_i hk
    obtain ⟨q1, a1, h1, h2⟩ := nt_bn_i h
    have hpT := nt_ty_T (T := T) (b := b) (p := p) (by omega)
    obtain ⟨g1, g2, ⟨D, g3⟩, g4⟩ := nt_cnd_ok h1 i3 hpT
    split at h2
    · rename_i hw
      split at h2
      · rename_i h59
        obtain ⟨e1, e2⟩ := nt_pw (0, none) h2
        have n1 := nt_nx_ge (T := T) (b := b) (p := q1)
        have n2 := nt_nx_ge (T := T) (b := b) (p := nt_nx T b q1)
        have n3 := nt_nx_le (b := b) (nt_nx_le (b := b) g2)
        obtain ⟨x1, x2, x3, x4⟩ := g3
        obtain ⟨⟨v0, v1, v2, v3, v5, v6, v7⟩, V2, V3, V4, V5, V6, V7, V8⟩ := hV
        have e5 : a1 5 = a 5 := x2 5 (by decide) (by omega)
        obtain ⟨r1, r2, r3, r4⟩ := nt_ra_n (a := a1) (k := nt_ty T b p) (w := nt_ty T b q1 - 6) (s := a 7)
        rw [e5] at r1 r2 r3 r4
        have eo : ∀ j, j ≠ 5 → j ≠ 7 → (j < 66 + 4 * a 5 ∨ 70 + 4 * a 5 ≤ j) → (j < 122 + 3 * a 7 ∨ 122 + 3 * a1 7 ≤ j) → nt_ra a1 (nt_ty T b p) (nt_ty T b q1 - 6) (a 7) j = a j := fun j y z u w => by
          rw [nt_ra_o y (by omega), x2 j z w]
        have e7 : nt_ra a1 (nt_ty T b p) (nt_ty T b q1 - 6) (a 7) 7 = a1 7 := nt_ra_o (by decide) (by omega)
        have est : ∀ j, 122 ≤ j → nt_ra a1 (nt_ty T b p) (nt_ty T b q1 - 6) (a 7) j = a1 j := fun j y => nt_ra_o (by omega) (by omega)
        rw [← e1, ← e2]
        refine ⟨⟨⟨⟨?_, ?_, ?_, ?_, ?_, ?_, ?_⟩, fun k hk => ?_, fun k hk => ?_, fun f hf => ?_, fun b hb => ?_, fun r hr => ?_, fun r hr => ?_, fun i hi => ?_⟩, by rw [e7]; omega, n3, ?_⟩, by omega, ?_, fun j hj => by unfold nt_un at hj; exact eo j (by omega) (by omega) (by omega) (by omega)⟩
        · rw [eo 0 (by omega) (by omega) (by omega) (by omega)]; exact v0
        · rw [eo 1 (by omega) (by omega) (by omega) (by omega), eo 2 (by omega) (by omega) (by omega) (by omega)]; exact v1
        · rw [eo 2 (by omega) (by omega) (by omega) (by omega)]; exact v2
        · rw [eo 2 (by omega) (by omega) (by omega) (by omega)]; exact v3
        · rw [nt_ra_5, e5]; omega
        · rw [eo 6 (by omega) (by omega) (by omega) (by omega)]; exact v6
        · rw [e7]; omega
        · rw [eo _ (by omega) (by omega) (by omega) (by omega), eo _ (by omega) (by omega) (by omega) (by omega), eo _ (by omega) (by omega) (by omega) (by omega), eo _ (by omega) (by omega) (by omega) (by omega), eo _ (by omega) (by omega) (by omega) (by omega)]
          exact V2 k hk
        · rw [eo 0 (by omega) (by omega) (by omega) (by omega)] at hk
          rw [eo _ (by omega) (by omega) (by omega) (by omega)]
          exact V3 k hk
        · rw [eo _ (by omega) (by omega) (by omega) (by omega), eo _ (by omega) (by omega) (by omega) (by omega)]
          exact V4 f hf
        · rw [eo _ (by omega) (by omega) (by omega) (by omega)]
          exact V5 b hb
        · rw [nt_ra_5, e5] at hr
          by_cases er : r = a 5
          · subst er
            rw [r1, r2, r3, r4, e7]
            refine ⟨by omega, by omega, by omega, Nat.le_refl _, ?_, fun j hj => ?_⟩
            · by_cases z : a 5 = 0
              · rw [if_pos z]; rw [if_pos z] at i4; exact i4
              · rw [if_neg z, eo _ (by omega) (by omega) (by omega) (by omega)]; rw [if_neg z] at i4; exact i4
            · rw [nt_dp_c (a := a1) j fun i hi => est _ (by omega)]
              have := (x4 (a 7) (Nat.le_refl _)).2 j (by omega) hj
              rw [Nat.sub_self] at this
              have : ny_dp a1 (a 7) j ≤ 1 + 9 := this
              omega
          · obtain ⟨w1, w2, w3, w4, w5, w6⟩ := V6 r (by omega)
            rw [eo (66 + 4 * r) (by omega) (by omega) (by omega) (by omega), eo (67 + 4 * r) (by omega) (by omega) (by omega) (by omega), eo (68 + 4 * r) (by omega) (by omega) (by omega) (by omega), eo (69 + 4 * r) (by omega) (by omega) (by omega) (by omega), e7]
            refine ⟨w1, w2, w3, by omega, ?_, fun j hj => ?_⟩
            · rw [w5]
              split
              · rfl
              · rw [eo _ (by omega) (by omega) (by omega) (by omega)]
            · rw [nt_dp_c (a := a) j fun i hi => by rw [est _ (by omega), x2 _ (by omega) (by omega)]]
              exact w6 j hj
        · rw [eo 6 (by omega) (by omega) (by omega) (by omega)] at hr
          rw [eo _ (by omega) (by omega) (by omega) (by omega), eo _ (by omega) (by omega) (by omega) (by omega), eo _ (by omega) (by omega) (by omega) (by omega), eo _ (by omega) (by omega) (by omega) (by omega)]
          exact V7 r hr
        · rw [e7] at hi
          rw [est _ (by omega), est _ (by omega), est _ (by omega)]
          rcases Nat.lt_or_ge i (a 7) with z | z
          · rw [x2 _ (by omega) (by omega), x2 _ (by omega) (by omega), x2 _ (by omega) (by omega)]
            exact V8 i z
          · exact x3 i z hi
        · rw [e7, nt_ra_5, e5, if_neg (by omega), show 65 + 4 * (a 5 + 1) = 69 + 4 * a 5 by omega, r4]
        · rw [nt_ra_5, e5]
      · injection h2 with _ h2; injection h2
    · injection h2 with _ h2; injection h2
  · injection h with _ h; injection h
theorem nt_rl_I {T : Nat} {b : Nat → Nat} (hT : T ≤ 200) : ∀ f p q a a', nt_I a p T → nt_rl T b f p a = (q, some a') → nt_I a' q T ∧ ∀ j, nt_un j → a' j = a j := by
  intro f
  induction f with
  | zero =>
    intro p q a a' hI h
    rw [nt_rl] at h
    split at h
    · obtain ⟨e1, e2⟩ := nt_pw (0, none) h
      rw [← e1, ← e2]; exact ⟨hI, fun _ _ => rfl⟩
    · injection h with _ h; injection h
  | succ f ih =>
    intro p q a a' hI h
    rw [nt_rl] at h
    split at h
    · obtain ⟨e1, e2⟩ := nt_pw (0, none) h
      rw [← e1, ← e2]; exact ⟨hI, fun _ _ => rfl⟩
    · obtain ⟨q1, a1, h1, h2⟩ := nt_bn_i h
      obtain ⟨g1, g2, g3, g4⟩ := nt_ru_I hT hI h1
      obtain ⟨k1, k2⟩ := ih _ _ _ _ g1 h2
      exact ⟨k1, fun j hj => by rw [k2 j hj, g4 j hj]⟩
theorem nt_az_o {a : ny_a} {j : Nat} (h5 : j ≠ 5) (h7 : j ≠ 7) : nt_az a j = a j := if_neg (by omega)
theorem nt_az_I {T p : Nat} {a : ny_a} (hV : ny_V a) (hp : p ≤ T) : nt_I (nt_az a) p T := by
  obtain ⟨⟨v0, v1, v2, v3, v5, v6, v7⟩, V2, V3, V4, V5, V6, V7, V8⟩ := hV
  have z5 : nt_az a 5 = 0 := rfl
  have z7 : nt_az a 7 = 0 := rfl
  refine ⟨⟨⟨v0, v1, v2, v3, by omega, v6, by omega⟩, fun k hk => ?_, fun k hk => ?_, fun f hf => ?_, fun b hb => ?_, fun r hr => absurd hr (by omega), fun r hr => ?_, fun i hi => absurd hi (by omega)⟩, by omega, hp, rfl⟩
  · rw [nt_az_o (by omega) (by omega), nt_az_o (by omega) (by omega), nt_az_o (by omega) (by omega), nt_az_o (by omega) (by omega), nt_az_o (by omega) (by omega)]
    exact V2 k hk
  · have hk : k < a 0 := hk
    rw [nt_az_o (by omega) (by omega)]; exact V3 k hk
  · rw [nt_az_o (by omega) (by omega), nt_az_o (by omega) (by omega)]; exact V4 f hf
  · rw [nt_az_o (by omega) (by omega)]; exact V5 b hb
  · have hr : r < a 6 := hr
    rw [nt_az_o (by omega) (by omega), nt_az_o (by omega) (by omega), nt_az_o (by omega) (by omega), nt_az_o (by omega) (by omega)]
    exact V7 r hr
theorem o_rules_V {T : Nat} {b : Nat → Nat} {a : ny_a} (hT : T ≤ 200) (hV : ny_V a) : ny_V (o_rules T b a).2 ∧ ∀ j, nt_un j → (o_rules T b a).2 j = a j := by
  unfold o_rules
  split
  · exact ⟨hV, fun _ _ => rfl⟩
  · rename_i q a' h
    obtain ⟨g1, g2⟩ := nt_rl_I hT 8 _ _ _ _ (nt_az_I hV ((nt_sk_p (T := T) (b := b) 0).2.1 (by omega))) h
    exact ⟨g1.1, fun j hj => (g2 j hj).trans (nt_az_o hj.1 hj.2.1)⟩
section NZCR
variable {d Ln : Nat} {I : ny_I} {Q : Int32 → ny_I → Prop} {Q0 : ny_I → Prop} {T : Nat} {b : Nat → Nat} {a : ny_a} {v : Nat}
theorem q_Ru_addRule {k w s : Nat} (hs : nt_sq I a v) (h8 : a 5 < 8) (h : ∀ I', nt_cF I' I → (∀ c, c < 59 → I' c = I c) → nt_sq I' (nt_ra a k w s) v → Q0 I') : ny_C0 d m_Ru_addRule [.ref 59, .int (nI k), .int (nI w)] Ln I Q0 := by
  obtain ⟨⟨s1, s2, s3, s4, s7⟩, s5, s6⟩ := hs
  refine s_Ru_addRule_0 ?_
  have u1 : ∀ x, ny_up I 60 (nI (a 5)).toNatClampNeg x 59 0 = nI (a 5) := fun x => by rw [ny_upne _ (by decide)]; exact s1
  have u2 : ∀ x y, ny_up (ny_up I 60 (nI (a 5)).toNatClampNeg x) 61 (nI (a 5)).toNatClampNeg y 59 0 = nI (a 5) := fun x y => by rw [ny_upne _ (by decide), ny_upne _ (by decide)]; exact s1
  have u4 : ∀ x y, ny_up (ny_up I 60 (nI (a 5)).toNatClampNeg x) 61 (nI (a 5)).toNatClampNeg y 59 4 = nI (a 7) := fun x y => by rw [ny_upne _ (by decide), ny_upne _ (by decide)]; exact s2
  have u3 : ∀ x y z, ny_up (ny_up (ny_up I 60 (nI (a 5)).toNatClampNeg x) 61 (nI (a 5)).toNatClampNeg y) 62 (nI (a 5)).toNatClampNeg z 59 0 = nI (a 5) := fun x y z => by rw [ny_upne _ (by decide), ny_upne _ (by decide), ny_upne _ (by decide)]; exact s1
  rw [s1, u1, u2, u4, u3, ny_lit, ny_le (by decide) (by omega), nI_clamp (by omega), nI_1]
  refine ⟨fun c => absurd c (by omega), fun _ => ⟨ny_inN (by omega) (by decide), ny_inN (by omega) (by decide), ny_inN (by omega) (by decide), ?_⟩⟩
  obtain ⟨n1, n2, n3, n4⟩ := nt_ra_n (a := a) (k := k) (w := w) (s := s)
  refine h _ ⟨fun c x y => ?_, fun j x y => ?_⟩ (fun c x => ?_) ⟨⟨?_, ?_, ?_, s4, ?_⟩, fun r hr => ?_, fun i hi => ?_⟩
  · simp (disch := omega) only [ny_upne]
  · simp (disch := omega) only [ny_upne]
  · simp (disch := omega) only [ny_upne]
  · rw [nt_ra_5, ny_uprd, if_pos ⟨rfl, rfl⟩]
  · rw [nt_ra_o (by decide) (by omega), ny_uprd, if_neg (by omega)]
    simp (disch := omega) only [ny_upne]; exact s2
  · rw [ny_uprd, if_neg (by omega)]
    simp (disch := omega) only [ny_upne]; exact s3
  · rw [nt_ra_5]; omega
  · rw [nt_ra_5] at hr
    by_cases e : r = a 5
    · subst e
      rw [n1, n2, n4]
      simp (disch := omega) only [ny_uprd, if_true, if_false, if_neg, and_self, true_and, and_true, false_and, and_false]
    · rw [nt_ra_o (by omega) (by omega), nt_ra_o (by omega) (by omega), nt_ra_o (by omega) (by omega)]
      simp (disch := omega) only [ny_uprd, if_true, if_false, if_neg, and_self, true_and, and_true, false_and, and_false]
      exact s5 r (by omega)
  · rw [nt_ra_o (by decide) (by omega)] at hi
    rw [nt_ra_o (by omega) (by omega), nt_ra_o (by omega) (by omega), nt_ra_o (by omega) (by omega)]
    simp (disch := omega) only [ny_upne]
    have g := s6 i hi
    refine ⟨g.1, fun q => ⟨nt_vs_F (fun j hj => ?_) (Nat.le_refl _) (g.2 q).1, nt_vs_F (fun j hj => ?_) (Nat.le_refl _) (g.2 q).2⟩⟩
    · simp (disch := omega) only [ny_upne]
    · simp (disch := omega) only [ny_upne]
theorem q_Ta_readRule (hT : T ≤ 200) {p : Nat} (hS : nt_S I T b p a) (h8 : a 5 < 8) (h0 : nt_g0 T b I Q (nt_ru T b p a)) (h1 : nt_g1 T b I Q (nt_ru T b p a)) : ny_C1 (d + 15) m_Ta_readRule [.ref 54] Ln I Q := by
  have vt := nt_ty_lt T b p
  obtain ⟨_, _, k0, k5, _, _, _, _, _, _, kk⟩ := nt_cmps _ vt
  have hp := nt_at_p hS.1
  have S2 := hS.2.1
  refine s_Ta_readRule_0 ?_
  rw [nt_at_7 hS.1]
  refine s_Ki_isKind_0 ?_
  rw [k0, k5]
  refine ⟨fun q => absurd q id, fun _ => ⟨fun q => ?_, fun q => ?_⟩⟩
  · exact ⟨fun z => absurd rfl z, fun _ => h0 p (if_neg fun z => q z.1) I (nt_cF_r I) hS.1⟩
  · have ht : nt_ty T b p < 6 := by omega
    have hpT := nt_ty_T (T := T) (b := b) (p := p) (by omega)
    have er : nt_ru T b p a = nt_bn (if nt_ty T b (nt_nx T b p) = 14 then nt_cd T b 3 (nt_nx T b (nt_nx T b p)) a else (nt_nx T b p, some a)) fun q a1 => if 6 ≤ nt_ty T b q ∧ nt_ty T b q ≤ 8 then (if nt_ty T b (nt_nx T b q) = 59 then (nt_nx T b (nt_nx T b q), some (nt_ra a1 (nt_ty T b p) (nt_ty T b q - 6) (a 7))) else (nt_nx T b q, none)) else (q, none) := if_pos ⟨ht, h8⟩
    rw [er] at h0 h1
    refine ⟨fun _ => q_Ta_pass hS.1 fun I2 F2 F2' A2 => ?_, fun z => absurd z (by decide)⟩
    have FF : nt_cF I2 I := nt_cF_54 F2 F2'
    have SS := nt_S_F hS F2 A2 nt_nx_ge
    have e39 : ∀ q a1 v1 I3, (if nt_ty T b (nt_nx T b p) = 14 then nt_cd T b 3 (nt_nx T b (nt_nx T b p)) a else (nt_nx T b p, some a)) = (q, some a1) → nt_cF I3 I → nt_at I3 T b q → nt_sq I3 a1 v1 → v1 ≤ 5 + q → ny_g (d + 15) m_Ta_readRule 39 [(0, .ref 54), (1, .int (nI (nt_ty T b p) - 0))] [] Ln I3 (ny_r1 Ln Q) := by
      intro q a1 v1 I3 hX F3 A3 s3 hv3
      obtain ⟨g1, g2, ⟨D, g3⟩, g4⟩ := nt_cnd_ok hX hp hpT
      have e5 : a1 5 = a 5 := g3.2.1 5 (by decide) (by omega)
      have vq := nt_ty_lt T b q
      obtain ⟨_, _, _, _, c6, c8, c66, _, _, _, _⟩ := nt_cmps _ vq
      have h0 := fun q2 e => h0 q2 ((nt_bn_s hX _).trans e)
      have h1 := fun q2 a2 e => h1 q2 a2 ((nt_bn_s hX _).trans e)
      refine s_Ta_readRule_39 ?_
      rw [nt_at_7 A3, c6]
      refine ⟨fun z => h0 q (if_neg (by omega)) I3 F3 A3, fun z => ?_⟩
      rw [c8 (by omega), c66 (by omega), kk]
      refine ⟨fun z2 => ?_, fun z2 => h0 q (if_neg (by omega)) I3 F3 A3⟩
      refine q_Ta_pass A3 fun I4 F4 F4' A4 => ?_
      have F41 : nt_cF I4 I := nt_cF_t (nt_cF_54 F4 F4') F3
      refine q_Ru_addRule (s := a 7) (nt_sq_F (fun c x y => F4 c (by omega)) s3) (by omega) fun I5 F5 F5' s5 => ?_
      have A5 : nt_at I5 T b (nt_nx T b q) := nt_at_F (fun c x => F5' c (by omega)) A4
      have F51 : nt_cF I5 I := nt_cF_t F5 F41
      refine q_Ta_passes (w := 59) A5 (by decide) (fun n => ?_) fun e I6 F6 F6' A6 => ?_
      · exact ⟨Or.inl rfl, h0 _ ((if_pos (by omega)).trans (if_neg n)) I5 F51 A5⟩
      · have l1 := nt_nx_ge (T := T) (b := b) (p := q)
        have l2 := nt_nx_ge (T := T) (b := b) (p := nt_nx T b q)
        exact ⟨Or.inr rfl, h1 _ _ ((if_pos (by omega)).trans (if_pos e)) v1 I6 (nt_cF_t (nt_cF_54 F6 F6') F51) A6 (nt_sq_F (fun c x y => F6 c (by omega)) s5) (by omega)⟩
    refine q_Ta_passes (w := 14) A2 (by decide) (fun n => ?_) fun e I3 F3 F3' A3 => ?_
    · obtain ⟨_, _, v2, s2, hv2⟩ := SS
      exact ⟨fun _ => e39 _ a v2 I2 (if_neg n) FF A2 s2 hv2, fun z => absurd rfl z⟩
    · refine ⟨fun z => absurd z (by decide), fun _ => ?_⟩
      have F31 : nt_cF I3 I := nt_cF_t (nt_cF_54 F3 F3') FF
      have := q_Ta_cond (Ln := Ln) (b := b) hT 3 (by decide) d
      refine this I3 _ _ a (nt_S_F SS F3 A3 nt_nx_ge) (fun q e3 I4 F4 A4 => ?_) fun q a4 e3 v4 I4 F4 A4 s4 hv4 => ?_
      · exact ⟨fun z => absurd rfl z, fun _ => h0 q (nt_bn_n ((if_pos e).trans e3) _) I4 (nt_cF_t F4 F31) A4⟩
      · exact ⟨fun _ => e39 q a4 v4 I4 ((if_pos e).trans e3) (nt_cF_t F4 F31) A4 s4 hv4, fun z => absurd z (by decide)⟩
end NZCR
