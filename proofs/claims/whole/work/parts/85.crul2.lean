/-! the class: readInto, rules -/
section NZCI
variable {d Ln : Nat} {I : ny_I} {Q : Int32 → ny_I → Prop} {Q0 : ny_I → Prop} {T : Nat} {b : Nat → Nat} {a : ny_a} {v : Nat}
theorem nt_at_pl {p : Nat} (hA : nt_at I T b p) : ∃ k, k ≤ 200 ∧ I 54 6 = nI k ∧ I 58 k = nI p := by
  obtain ⟨n, k, g1, g2, g3, g4, g5, g6, g7, g8⟩ := hA
  exact ⟨k, by omega, g7, by rw [(g6 k (by omega)).2.1, g4]⟩
/-- what the reading of rules leaves -/
def nt_kF (I' I : ny_I) : Prop := ∀ c, ¬ (15 ≤ c ∧ c ≤ 22) → ¬ (54 ≤ c ∧ c ≤ 66) ∨ c = 55 → I' c = I c
theorem q_Ta_readInto (hX : nt_T I) (hC : nt_C I T b) (hV : nt_V T b) (hVa : ny_V a) (h0 : ∀ q, nt_rl T b 8 (nt_sk T b 0) (nt_az a) = (q, none) → ∀ I', nt_kF I' I → (∀ c, 15 ≤ c → c ≤ 22 → I' c = I c) → I' 54 1 = 0 → Q (nI 4294967196 - nI q) I') (h1 : ∀ q a', nt_rl T b 8 (nt_sk T b 0) (nt_az a) = (q, some a') → ∀ v I', nt_kF I' I → I' 54 1 = 0 → v ≤ 205 → I' 15 0 = nI (a' 5) → I' 15 4 = nI (a' 7) → (∀ r, r < a' 5 → I' 16 r = nI (a' (66 + 4 * r)) ∧ I' 17 r = nI (a' (67 + 4 * r)) ∧ I' 18 r = nI (a' (69 + 4 * r))) → (∀ i, i < a' 7 → I' 19 i = nI (a' (122 + 3 * i)) ∧ (a' (122 + 3 * i) < 3 → ny_vr I' (I' 20 i) (a' (123 + 3 * i)) ∧ ny_vr I' (I' 21 i) (a' (124 + 3 * i)))) → Q (nI (a' 5)) I') : ny_C1 (d + 16) m_Ta_readInto [.ref 54, .ref 15] Ln I Q := by
  have hT := hV.1
  refine s_Ta_readInto_0 (q_Ta_split hX hC hV fun I1 F1 C1 A1 => s_Ru_clear_0 ?_)
  have hsk := (nt_sk_p (T := T) (b := b) 0).2.1 (by omega)
  have hF1 : ∀ c, ¬ (15 ≤ c ∧ c ≤ 22) → ¬ (54 ≤ c ∧ c ≤ 66) ∨ c = 55 → I1 c = I c := fun c x y => F1 c (by omega) (by omega) (by omega) (by omega)
  have fin : ∀ f p a1 v1 x2 (I2 : ny_I), nt_rl T b 8 (nt_sk T b 0) (nt_az a) = nt_rl T b f p a1 → (f = 0 ∨ x2 = nI 0 ∨ nt_ty T b p = 19) → (x2 = nI 0 ∧ nt_rl T b f p a1 = (p, none) ∨ x2 = nI 1 ∧ nt_sq I2 a1 v1 ∧ v1 ≤ 5 + p ∧ nt_I a1 p T) → nt_cF I2 I1 ∨ True → (∀ c, ¬ (54 ≤ c ∧ c ≤ 66) ∨ c = 55 → I2 c = I c) → I2 54 1 = 0 → nt_at I2 T b p → ny_g (d + 16) m_Ta_readInto 50 [(0, .ref 54), (1, .ref 15), (2, .int x2)] [] Ln I2 (ny_r1 Ln Q) := by
    intro f p a1 v1 x2 I2 hr he hc _ hF hs hA
    obtain ⟨k, k1, k2, k3⟩ := nt_at_pl hA
    refine s_Ta_readInto_50 ?_
    have bad : nt_rl T b f p a1 = (p, none) → ny_in (I2 54 6) 201 = true ∧ Q (-100 - I2 58 (I2 54 6).toNatClampNeg) I2 := by
      intro hz
      rw [k2, nI_clamp (by omega), k3]
      exact ⟨ny_inN (by omega) (by decide), h0 p (hr.trans hz) I2 (fun c x y => hF c y) (fun c x y => hF c (by omega)) hs⟩
    rw [nt_at_7 hA]
    have vt := nt_ty_lt T b p
    have e19 : nI (nt_ty T b p) = 19 ↔ nt_ty T b p = 19 := ny_eq (b := 19) (by omega) (by decide)
    rw [e19]
    rcases hc with ⟨c1, c2⟩ | ⟨c1, c2, c3, c4⟩
    · subst c1
      exact ⟨fun _ => bad c2, fun q => absurd rfl q⟩
    · subst c1
      refine ⟨fun q => absurd q (by decide), fun _ => ⟨fun z => ?_, fun z => ?_⟩⟩
      · have hz : nt_rl T b f p a1 = (p, some a1) := by
          cases f with
          | zero => exact if_pos z
          | succ f => exact if_pos z
        obtain ⟨⟨s1, s2, s3, s4, s7⟩, s5, s6⟩ := c2
        obtain ⟨i1, i2, i3, i4⟩ := c4
        refine q_Ru_bs fun I3 b1 b2 b3 b4 b5 b6 => ?_
        rw [b2, s1]
        have mv : ∀ x w, ny_vs I2 v1 x w → ny_vr I3 x w := by
          intro x w hx
          rcases hx with hx | ⟨y1, j, y2, y3, y4, y5⟩
          · exact Or.inl hx
          · exact Or.inr ⟨y1, j, y2, by omega, y4, by rw [b6 j (by omega)]; exact y5⟩
        refine h1 p a1 (hr.trans hz) v1 I3 (fun c x y => by rw [b1 c x, hF c y]) (by rw [b1 54 (by decide)]; exact hs) (by omega) (b2.trans s1) (b3.trans s2) (fun r hr => ?_) fun i hi => ?_
        · obtain ⟨x1, x2, x3⟩ := b4 r (by omega)
          rw [x1, x2, x3]; exact s5 r hr
        · obtain ⟨x1, x2, x3⟩ := b5 i (by omega)
          rw [x1, x2, x3]
          exact ⟨(s6 i hi).1, fun q => ⟨mv _ _ ((s6 i hi).2 q).1, mv _ _ ((s6 i hi).2 q).2⟩⟩
      · have hf0 : f = 0 := by
          rcases he with x | x | x
          · exact x
          · exact absurd x (by decide)
          · exact absurd x z
        subst hf0
        exact bad (if_neg z)
  have key : ∀ f p a1 v1 (I2 : ny_I), f ≤ 8 → a1 5 = 8 - f → nt_rl T b 8 (nt_sk T b 0) (nt_az a) = nt_rl T b f p a1 → nt_I a1 p T → nt_sq I2 a1 v1 → v1 ≤ 5 + p → (∀ c, ¬ (54 ≤ c ∧ c ≤ 66) ∨ c = 55 → I2 c = I c) → I2 54 1 = 0 → nt_at I2 T b p → ny_g (d + 16) m_Ta_readInto 20 [(0, .ref 54), (1, .ref 15), (2, .int (nI 1)), (3, .int (nI (8 - f)))] [] Ln I2 (ny_r1 Ln Q) := by
    intro f
    induction f with
    | zero =>
      intro p a1 v1 I2 hf h5 hr hi hs hv hF hz hA
      exact s_Ta_readInto_20 ⟨fun _ => fin 0 p a1 v1 (nI 1) I2 hr (Or.inl rfl) (Or.inr ⟨rfl, hs, hv, hi⟩) (Or.inr trivial) hF hz hA, fun c => absurd (by decide) c⟩
    | succ f ih =>
      intro p a1 v1 I2 hf h5 hr hi hs hv hF hz hA
      refine s_Ta_readInto_20 ?_
      rw [ny_lit, ny_le (by decide) (by omega)]
      refine ⟨fun c => absurd c (by omega), fun _ => ⟨fun q => absurd q (by decide), fun _ => ?_⟩⟩
      have vt := nt_ty_lt T b p
      have e19 : nI (nt_ty T b p) = 19 ↔ nt_ty T b p = 19 := ny_eq (b := 19) (by omega) (by decide)
      rw [nt_at_7 hA]
      show (nI (nt_ty T b p) = 19 → _) ∧ (¬ nI (nt_ty T b p) = 19 → _)
      rw [e19]
      refine ⟨fun z => fin (f + 1) p a1 v1 (nI 1) I2 hr (Or.inr (Or.inr z)) (Or.inr ⟨rfl, hs, hv, hi⟩) (Or.inr trivial) hF hz hA, fun z => ?_⟩
      have er : nt_rl T b (f + 1) p a1 = nt_bn (nt_ru T b p a1) (nt_rl T b f) := if_neg z
      have en : nI (8 - (f + 1)) + 1 = nI (8 - f) := by rw [nI_1, show 8 - (f + 1) + 1 = 8 - f by omega]
      have en2 : nI (8 - (f + 1)) + nI 1 = nI (8 - f) := en
      refine q_Ta_readRule hT ⟨hA, hi.2.1, v1, hs, hv⟩ (by omega) (fun q e I3 F3 A3 => ?_) fun q a3 e v3 I3 F3 A3 s3 hv3 => ?_
      · have hF3 : ∀ c, ¬ (54 ≤ c ∧ c ≤ 66) ∨ c = 55 → I3 c = I c := fun c x => by rw [F3.1 c (by omega) (by omega), hF c x]
        have hz3 : I3 54 1 = 0 := by rw [F3.2 1 (by decide) (by decide)]; exact hz
        have e2 : nt_rl T b (f + 1) p a1 = (q, none) := er.trans (nt_bn_n e _)
        have g := fin f q a1 v1 (nI 0) I3
        have g50 : ny_g (d + 16) m_Ta_readInto 50 [(0, .ref 54), (1, .ref 15), (2, .int (nI 0))] [] Ln I3 (ny_r1 Ln Q) := by
          obtain ⟨k, k1, k2, k3⟩ := nt_at_pl A3
          refine s_Ta_readInto_50 ⟨fun _ => ?_, fun z => absurd rfl z⟩
          rw [k2, nI_clamp (by omega), k3]
          exact ⟨ny_inN (by omega) (by decide), h0 q (hr.trans e2) I3 (fun c x y => hF3 c y) (fun c x y => hF3 c (by omega)) hz3⟩
        first | rw [en2] | rw [en]
        exact s_Ta_readInto_20 ⟨fun _ => g50, fun _ => ⟨fun _ => g50, fun z => absurd rfl z⟩⟩
      · have hF3 : ∀ c, ¬ (54 ≤ c ∧ c ≤ 66) ∨ c = 55 → I3 c = I c := fun c x => by rw [F3.1 c (by omega) (by omega), hF c x]
        have hz3 : I3 54 1 = 0 := by rw [F3.2 1 (by decide) (by decide)]; exact hz
        obtain ⟨g1, g2, g3, g4⟩ := nt_ru_I hT hi e
        first | rw [en2] | rw [en]
        exact ih q a3 v3 I3 (by omega) (by omega) (hr.trans (er.trans (nt_bn_s e _))) g1 s3 hv3 hF3 hz3 A3
  have u : ∀ c, c ≠ 54 → c ≠ 59 → ny_up (ny_up (ny_up (ny_up I1 54 1 0) 59 0 0) 59 4 0) 59 8 5 c = I1 c := fun c x y => by
    rw [ny_upne _ y, ny_upne _ y, ny_upne _ y, ny_upne _ x]
  refine key 8 (nt_sk T b 0) (nt_az a) 5 _ (Nat.le_refl _) rfl rfl (nt_az_I hVa hsk) ⟨⟨?_, ?_, ?_, Nat.le_refl _, Nat.zero_le _⟩, fun r hr => absurd hr (by show ¬ r < 0; omega), fun i hi => absurd hi (by show ¬ i < 0; omega)⟩ (by omega) (fun c x => ?_) ?_ ?_
  · rfl
  · rfl
  · rfl
  · rw [u c (by omega) (by omega)]
    exact F1 c (by omega) (by omega) (by omega) (by omega)
  · rfl
  · obtain ⟨n, k, g1, g2, g3, g4, g5, g6, g7, g8⟩ := A1
    refine ⟨n, k, g1, g2, g3, g4, ?_, fun j hj => ?_, ?_, ?_⟩
    · rw [ny_upne _ (by decide), ny_upne _ (by decide), ny_upne _ (by decide), ny_uprd, if_neg (by omega)]; exact g5
    · rw [u 56 (by decide) (by decide), u 57 (by decide) (by decide), u 58 (by decide) (by decide)]; exact g6 j hj
    · rw [ny_upne _ (by decide), ny_upne _ (by decide), ny_upne _ (by decide), ny_uprd, if_neg (by omega)]; exact g7
    · rw [ny_upne _ (by decide), ny_upne _ (by decide), ny_upne _ (by decide), ny_uprd, if_neg (by omega)]; exact g8
theorem q_No_rules (hX : nt_T I) (hC : nt_C I T b) (hV : nt_V T b) (hCl : ny_Cl I a) (hVa : ny_V a) (h : ∀ I', ny_Cl I' (o_rules T b a).2 → nt_kF I' I → nt_C I' 0 b → Q (o_rules T b a).1 I') : ny_C1 (d + 17) m_No_rules [.ref 5] Ln I Q := by
  refine s_No_rules_0 (q_Ta_readInto hX hC hV hVa (fun q e I' F1 F2 F3 => ?_) fun q a' e v I' F1 F3 hv r1 r2 r3 r4 => ?_)
  · unfold o_rules at h
    rw [e] at h
    refine h I' (nz_Cl_k hVa (F1 1 (by omega) (by omega)) (fun q j r => ?_) hCl) F1 ⟨F3, fun j hj => absurd hj (by omega)⟩
    have hq : q < 54 := by unfold nz_rq at r; omega
    rcases Nat.lt_or_ge q 15 with x | x
    · rw [F1 q (by omega) (by omega)]
    · rcases Nat.lt_or_ge 22 q with y | y
      · rw [F1 q (by omega) (by omega)]
      · rw [F2 q x y]
  · have ho := o_rules_V (b := b) (a := a) hV.1 hVa
    unfold o_rules at h ho
    rw [e] at h ho
    have ho : ny_V a' ∧ ∀ j, nt_un j → a' j = a j := ho
    have v0 := hVa.1
    have un : ∀ j, nt_un j → a' j = a j := ho.2
    refine h I' ?_ F1 ⟨F3, fun j hj => absurd hj (by omega)⟩
    show ny_Cl I' a'
    obtain ⟨⟨⟨c1, c2⟩, c3, c4, c5, ⟨c6, c7⟩, c8, c9, c10⟩, ⟨m1, m2, m, m3, m4, m5⟩, ⟨s1, s2⟩, w1, w2⟩ := hCl
    have e : ∀ q, q < 15 ∨ 22 < q ∧ q < 54 → I' q = I q := fun q x => F1 q (by omega) (by omega)
    refine ⟨⟨⟨?_, ?_⟩, fun k hk => ?_, fun f hf => ?_, fun b hb => ?_, ⟨r1, r2⟩, r3, r4, ?_⟩, ⟨?_, fun k hk => ?_, m, m3, ?_, fun k hk => ?_⟩, ⟨?_, ?_⟩, ?_, fun r hr => ?_⟩
    · rw [e 6 (by omega), un 0 (by unfold nt_un; omega)]; exact c1
    · rw [e 6 (by omega), un 2 (by unfold nt_un; omega)]; exact c2
    · rw [un 0 (by unfold nt_un; omega)] at hk
      rw [e 9 (by omega), e 10 (by omega), e 11 (by omega), un _ (by unfold nt_un; omega), un _ (by unfold nt_un; omega), un _ (by unfold nt_un; omega)]
      exact c3 k hk
    · rw [e 13 (by omega), e 14 (by omega), un _ (by unfold nt_un; omega), un _ (by unfold nt_un; omega)]; exact c4 f hf
    · rw [e 12 (by omega), un _ (by unfold nt_un; omega)]; exact c5 b hb
    · rw [e 1 (by omega)]; exact c10
    · rw [e 7 (by omega), un 1 (by unfold nt_un; omega)]; exact m1
    · rw [un 0 (by unfold nt_un; omega)] at hk
      rw [e (7 + 1) (by omega), un _ (by unfold nt_un; omega)]; exact m2 k hk
    · rw [e 7 (by omega)]; exact m4
    · rw [un 0 (by unfold nt_un; omega), un (12 + 5 * k) (by unfold nt_un; omega)]; exact m5 k hk
    · rw [e 6 (by omega), un 3 (by unfold nt_un; omega)]; exact s1
    · rw [e 6 (by omega), un 4 (by unfold nt_un; omega)]; exact s2
    · rw [e 23 (by omega), un 6 (by unfold nt_un; omega)]; exact w1
    · rw [un 6 (by unfold nt_un; omega)] at hr
      rw [e 24 (by omega), e 25 (by omega), e 26 (by omega), e 27 (by omega), un _ (by unfold nt_un; omega), un _ (by unfold nt_un; omega), un _ (by unfold nt_un; omega), un _ (by unfold nt_un; omega)]
      exact w2 r hr
end NZCI
