/-! the class: readRule and what it calls -/
def ny_vs (I : ny_I) (v : Nat) (x : Int32) (w : Nat) : Prop := (10000 ≤ w ∧ x = nI (w - 10000)) ∨ (w < 10000 ∧ ∃ j, 5 ≤ j ∧ j < v ∧ x = nI j ∧ I 66 j = nI w)
def nt_sq (I : ny_I) (a : ny_a) (v : Nat) : Prop := (I 59 0 = nI (a 5) ∧ I 59 4 = nI (a 7) ∧ I 59 8 = nI v ∧ 5 ≤ v ∧ a 5 ≤ 8) ∧ (∀ r, r < a 5 → I 60 r = nI (a (66 + 4 * r)) ∧ I 61 r = nI (a (67 + 4 * r)) ∧ I 62 r = nI (a (69 + 4 * r))) ∧
  ∀ i, i < a 7 → I 63 i = nI (a (122 + 3 * i)) ∧ (a (122 + 3 * i) < 3 → ny_vs I v (I 64 i) (a (123 + 3 * i)) ∧ ny_vs I v (I 65 i) (a (124 + 3 * i)))
def nt_cF (I' I : ny_I) : Prop := (∀ c, c ≠ 54 → (c < 59 ∨ 66 < c) → I' c = I c) ∧ ∀ j, j ≠ 6 → j ≠ 7 → I' 54 j = I 54 j
theorem nt_cF_r (I : ny_I) : nt_cF I I := ⟨fun _ _ _ => rfl, fun _ _ _ => rfl⟩
theorem nt_cF_t {I1 I2 I3 : ny_I} (h : nt_cF I1 I2) (h2 : nt_cF I2 I3) : nt_cF I1 I3 := ⟨fun c x y => (h.1 c x y).trans (h2.1 c x y), fun j x y => (h.2 j x y).trans (h2.2 j x y)⟩
theorem nt_vs_F {I I' : ny_I} {v v' : Nat} {x : Int32} {w : Nat} (h : ∀ j, j < v → I' 66 j = I 66 j) (hv : v ≤ v') (hx : ny_vs I v x w) : ny_vs I' v' x w := by
  rcases hx with hx | ⟨h1, j, h2, h3, h4, h5⟩
  · exact Or.inl hx
  · exact Or.inr ⟨h1, j, h2, by omega, h4, by rw [h j h3]; exact h5⟩
theorem nt_sq_F {I I' : ny_I} {a : ny_a} {v : Nat} (h : ∀ c, 59 ≤ c → c ≤ 66 → I' c = I c) (hs : nt_sq I a v) : nt_sq I' a v := by
  obtain ⟨⟨s1, s2, s3, s4, s7⟩, s5, s6⟩ := hs
  unfold nt_sq
  rw [h 59 (by decide) (by decide), h 60 (by decide) (by decide), h 61 (by decide) (by decide), h 62 (by decide) (by decide), h 63 (by decide) (by decide), h 64 (by decide) (by decide), h 65 (by decide) (by decide)]
  refine ⟨⟨s1, s2, s3, s4, s7⟩, s5, fun i hi => ⟨(s6 i hi).1, fun q => ?_⟩⟩
  have e : ∀ j, j < v → I' 66 j = I 66 j := fun j _ => by rw [h 66 (by decide) (by decide)]
  exact ⟨nt_vs_F e (Nat.le_refl _) ((s6 i hi).2 q).1, nt_vs_F e (Nat.le_refl _) ((s6 i hi).2 q).2⟩
theorem nt_at_F {I I' : ny_I} {T p : Nat} {b : Nat → Nat} (h : ∀ c, c = 54 ∨ c = 56 ∨ c = 57 ∨ c = 58 → I' c = I c) (hs : nt_at I T b p) : nt_at I' T b p := by
  obtain ⟨n, k, s1, s2, s3, s4, s5, s6, s7, s8⟩ := hs
  refine ⟨n, k, s1, s2, s3, s4, ?_, fun j hj => ?_, ?_, ?_⟩
  · rw [h 54 (by omega)]; exact s5
  · rw [h 56 (by omega), h 57 (by omega), h 58 (by omega)]; exact s6 j hj
  · rw [h 54 (by omega)]; exact s7
  · rw [h 54 (by omega)]; exact s8
theorem nt_cmps : ∀ t, t < 63 → (nI t - 60 + 0 < 0 ↔ t < 60) ∧ (60 ≤ t → nI t - 60 + 0 = nI (t - 60) ∧ nI t - 60 + 0 ≤ 2) ∧ (nI t - 0 < 0 ↔ False) ∧ ((5 : Int32) < nI t - 0 ↔ ¬ t < 6) ∧ (nI t - 6 < 0 ↔ t < 6) ∧ (6 ≤ t → (nI t - 6 ≤ 2 ↔ t ≤ 8)) ∧ (6 ≤ t → nI t - 6 = nI (t - 6)) ∧ (nI t - 9 < 0 ↔ t < 9) ∧ (9 ≤ t → ((5 : Int32) ≤ nI t - 9 ↔ ¬ t < 14)) ∧ (9 ≤ t → nI t - 9 = nI (t - 9)) ∧ nI t - 0 = nI t := by decide +kernel
section NZCP
variable {d Ln : Nat} {I : ny_I} {Q : Int32 → ny_I → Prop} {Q0 : ny_I → Prop} {T : Nat} {b : Nat → Nat} {a : ny_a} {v : Nat}
theorem q_Ru_addStep {s v1 w1 : Nat} {x y : Int32} (hs : nt_sq I a v) (h7 : a 7 ≤ 150) (hx : s < 3 → ny_vs I v x v1 ∧ ny_vs I v y w1) (h : ∀ I', nt_cF I' I → (∀ c, c < 59 → I' c = I c) → nt_sq I' (nt_sa a s v1 w1) v → Q0 I') : ny_C0 d m_Ru_addStep [.ref 59, .int (nI s), .int x, .int y] Ln I Q0 := by
  obtain ⟨⟨s1, s2, s3, s4, s7⟩, s5, s6⟩ := hs
  refine s_Ru_addStep_0 ?_
  have u1 : ∀ x, ny_up I 63 (nI (a 7)).toNatClampNeg x 59 4 = nI (a 7) := fun x => by rw [ny_upne _ (by decide)]; exact s2
  have u2 : ∀ x y, ny_up (ny_up I 63 (nI (a 7)).toNatClampNeg x) 64 (nI (a 7)).toNatClampNeg y 59 4 = nI (a 7) := fun x y => by rw [ny_upne _ (by decide), ny_upne _ (by decide)]; exact s2
  have u3 : ∀ x y z, ny_up (ny_up (ny_up I 63 (nI (a 7)).toNatClampNeg x) 64 (nI (a 7)).toNatClampNeg y) 65 (nI (a 7)).toNatClampNeg z 59 4 = nI (a 7) := fun x y z => by rw [ny_upne _ (by decide), ny_upne _ (by decide), ny_upne _ (by decide)]; exact s2
  rw [s2, u1, u2, u3, ny_lit, ny_le (by decide) (by omega), nI_clamp (by omega), nI_1]
  refine ⟨fun c => absurd c (by omega), fun _ => ⟨ny_inN (by omega) (by decide), ny_inN (by omega) (by decide), ny_inN (by omega) (by decide), ?_⟩⟩
  obtain ⟨n1, n2, n3⟩ := nt_sa_n (a := a) (s := s) (v := v1) (w := w1)
  have e66 : ∀ x y z w, ∀ j, j < v → ny_up (ny_up (ny_up (ny_up I 63 (a 7) x) 64 (a 7) y) 65 (a 7) z) 59 4 w 66 j = I 66 j := fun x y z w j _ => by
    rw [ny_upne _ (by decide), ny_upne _ (by decide), ny_upne _ (by decide), ny_upne _ (by decide)]
  refine h _ ⟨fun c x y => ?_, fun j x y => ?_⟩ (fun c x => ?_) ⟨⟨?_, ?_, ?_, s4, ?_⟩, fun r hr => ?_, fun i hi => ?_⟩
  · rw [ny_upne _ (by omega), ny_upne _ (by omega), ny_upne _ (by omega), ny_upne _ (by omega)]
  · rw [ny_upne _ (by omega), ny_upne _ (by omega), ny_upne _ (by omega), ny_upne _ (by omega)]
  · rw [ny_upne _ (by omega), ny_upne _ (by omega), ny_upne _ (by omega), ny_upne _ (by omega)]
  · rw [nt_sa_o (by decide) (by omega), ny_uprd, if_neg (by omega), ny_upne _ (by decide), ny_upne _ (by decide), ny_upne _ (by decide)]; exact s1
  · rw [nt_sa_7, ny_uprd, if_pos ⟨rfl, rfl⟩]
  · rw [ny_uprd, if_neg (by omega), ny_upne _ (by decide), ny_upne _ (by decide), ny_upne _ (by decide)]; exact s3
  · rw [nt_sa_o (by decide) (by omega)]; exact s7
  · rw [nt_sa_o (by decide) (by omega)] at hr
    have h8 := s5 r hr
    rw [nt_sa_o (by omega) (by omega), nt_sa_o (by omega) (by omega), nt_sa_o (by omega) (by omega)]
    simp (disch := omega) only [ny_upne]
    exact h8
  · rw [nt_sa_7] at hi
    by_cases e : i = a 7
    · subst e
      rw [n1, n2, n3]
      simp (disch := omega) only [ny_uprd, if_true, if_false, if_neg, and_self, true_and, and_true, false_and, and_false]
      exact fun q => ⟨nt_vs_F (e66 _ _ _ _) (Nat.le_refl _) (hx q).1, nt_vs_F (e66 _ _ _ _) (Nat.le_refl _) (hx q).2⟩
    · rw [nt_sa_o (by omega) (by omega), nt_sa_o (by omega) (by omega), nt_sa_o (by omega) (by omega)]
      simp (disch := omega) only [ny_uprd, if_true, if_false, if_neg, and_self, true_and, and_true, false_and, and_false]
      have g := s6 i (by omega)
      exact ⟨g.1, fun q => ⟨nt_vs_F (e66 _ _ _ _) (Nat.le_refl _) (g.2 q).1, nt_vs_F (e66 _ _ _ _) (Nat.le_refl _) (g.2 q).2⟩⟩
theorem q_Ru_addNumber {w : Nat} (hs : nt_sq I a v) (hv : v ≤ 204) (h : ∀ I', nt_cF I' I → (∀ c, c < 59 → I' c = I c) → (∀ j, j < v → I' 66 j = I 66 j) → nt_sq I' a (v + 1) → I' 66 v = nI w → Q (nI v) I') : ny_C1 d m_Ru_addNumber [.ref 59, .int (nI w)] Ln I Q := by
  obtain ⟨⟨s1, s2, s3, s4, s7⟩, s5, s6⟩ := hs
  refine s_Ru_addNumber_0 ?_
  have em : (if (204 : Int32) < I 59 8 then (204 : Int32) else I 59 8) = nI v := by
    rw [s3]
    exact if_neg (fun q => absurd ((ny_lt (a := 204) (by decide) (by omega)).mp q) (by omega))
  rw [em, nI_clamp (by omega), nI_1]
  have e66 : ∀ j, j < v → ny_up (ny_up I 66 v (nI w)) 59 8 (nI (v + 1)) 66 j = I 66 j := fun j hj => by
    rw [ny_upne _ (by decide), ny_uprd, if_neg (by omega)]
  refine ⟨ny_inN (by omega) (by decide), h _ ⟨fun c x y => ?_, fun j x y => ?_⟩ (fun c x => ?_) e66 ⟨⟨?_, ?_, ?_, by omega, s7⟩, fun r hr => ?_, fun i hi => ?_⟩ ?_⟩
  · rw [ny_upne _ (by omega), ny_upne _ (by omega)]
  · rw [ny_upne _ (by omega), ny_upne _ (by omega)]
  · rw [ny_upne _ (by omega), ny_upne _ (by omega)]
  · rw [ny_uprd, if_neg (by omega), ny_upne _ (by omega)]; exact s1
  · rw [ny_uprd, if_neg (by omega), ny_upne _ (by omega)]; exact s2
  · rw [ny_uprd, if_pos ⟨rfl, rfl⟩]
  · simp (disch := omega) only [ny_upne]; exact s5 r hr
  · have g := s6 i hi
    rw [ny_upne _ (show (63 : Nat) ≠ 59 by decide), ny_upne _ (show (63 : Nat) ≠ 66 by decide), ny_upne _ (show (64 : Nat) ≠ 59 by decide), ny_upne _ (show (64 : Nat) ≠ 66 by decide), ny_upne _ (show (65 : Nat) ≠ 59 by decide), ny_upne _ (show (65 : Nat) ≠ 66 by decide)]
    exact ⟨g.1, fun q => ⟨nt_vs_F e66 (by omega) (g.2 q).1, nt_vs_F e66 (by omega) (g.2 q).2⟩⟩
  · rw [ny_upne _ (by decide), ny_uprd, if_pos ⟨rfl, rfl⟩]
theorem nt_at_7 {p : Nat} (h : nt_at I T b p) : I 54 7 = nI (nt_ty T b p) := by
  obtain ⟨n, k, _, _, _, _, _, _, _, h7⟩ := h
  exact h7
theorem nt_nm3 : ∀ j, j < 205 → ¬ nI j = (-3 : Int32) := by decide +kernel
theorem q_Ta_placeOfValue {p : Nat} (hA : nt_at I T b p) (hs : nt_sq I a v) (hv : p < T → v ≤ 204) (h0 : nt_vl T b p = none → Q (-3) I) (h1 : ∀ w, nt_vl T b p = some w → ∀ x v' I', nt_cF I' I → (∀ j, j < v → I' 66 j = I 66 j) → v ≤ v' → v' ≤ v + 1 → nt_at I' T b p → nt_sq I' a v' → ny_vs I' v' x w → ¬ x = -3 → Q x I') : ny_C1 (d + 1) m_Ta_placeOfValue [.ref 54] Ln I Q := by
  have vt := nt_ty_lt T b p
  obtain ⟨_, _, _, _, _, _, _, c9, c14, c99, _⟩ := nt_cmps _ vt
  refine s_Ta_placeOfValue_0 ?_
  rw [nt_at_7 hA, ny_lit, ny_eq (by omega) (by decide)]
  unfold nt_vl at h0 h1
  refine ⟨fun c => ?_, fun c => ?_⟩
  · rw [if_neg c] at h0 h1
    rw [c9]
    refine ⟨fun q => h0 (if_neg (by omega)), fun q => ?_⟩
    rw [c14 (by omega), c99 (by omega)]
    refine ⟨fun q2 => h0 (if_neg (by omega)), fun q2 => ?_⟩
    refine h1 _ (if_pos (by omega)) _ v I (nt_cF_r I) (fun _ _ => rfl) (Nat.le_refl _) (by omega) hA hs (Or.inl ⟨by omega, ?_⟩) (nt_nm3 _ (by omega))
    rw [show 10000 + (nt_ty T b p - 9) - 10000 = nt_ty T b p - 9 by omega]
  · rw [if_pos c] at h1
    have hA2 := hA
    obtain ⟨n, k, g1, g2, g3, g4, g5, g6, g7, g8⟩ := hA2
    have tk := g6 k (by omega)
    rw [g4] at tk
    rw [g7, nI_clamp (by omega), tk.2.2 c]
    have vn := nt_ty_n c
    refine ⟨ny_inN (by omega) (by decide), q_Ru_addNumber hs (hv vn.1) fun I' F1 F2 F3 s2 e2 => ?_⟩
    exact h1 _ rfl _ (v + 1) I' F1 F3 (by omega) (Nat.le_refl _) (nt_at_F (fun c x => F2 c (by omega)) hA) s2 (Or.inr ⟨by omega, v, hs.1.2.2.2.1, by omega, rfl, e2⟩) (nt_nm3 _ (by omega))
theorem nt_cF_54 {I' I : ny_I} (h1 : ∀ c, c ≠ 54 → I' c = I c) (h2 : ∀ j, j ≠ 6 → j ≠ 7 → I' 54 j = I 54 j) : nt_cF I' I := ⟨fun c x _ => h1 c x, h2⟩
theorem q_Ta_readComparison {p : Nat} (hA : nt_at I T b p) (hs : nt_sq I a v) (hv : v ≤ 5 + p) (hT : T ≤ 200) (h7 : 2 * a 7 ≤ p) (h0 : ∀ q, nt_cm T b p a = (q, none) → ∀ I', nt_cF I' I → nt_at I' T b q → Q (nI 0) I') (h1 : ∀ q a', nt_cm T b p a = (q, some a') → ∀ v' I', nt_cF I' I → nt_at I' T b q → nt_sq I' a' v' → v' ≤ 5 + q → Q (nI 1) I') : ny_C1 (d + 2) m_Ta_readComparison [.ref 54] Ln I Q := by
  have hp : p ≤ T := by
    obtain ⟨n, k, _, _, _, g4, _⟩ := hA
    rw [← g4]; exact (nt_pl_st k).1
  unfold nt_cm at h0 h1
  refine s_Ta_readComparison_0 ?_
  refine q_Ta_placeOfValue hA hs (fun x => by omega) (fun e => ?_) fun w1 e1 x v1 I1 F1 G1 l1 l2 A1 s1 r1 n1 => ?_
  · rw [e] at h0
    exact ⟨fun q => absurd rfl q, fun _ => h0 p rfl I (nt_cF_r I) hA⟩
  · have t1 := nt_vl_T e1
    have t2 := nt_nx_lt (b := b) t1.1
    have t3 := nt_nx_le (b := b) hp
    rw [e1] at h0 h1
    refine ⟨fun _ => q_Ta_pass A1 fun I2 F2 F2' A2 => ?_, fun q => absurd q n1⟩
    have vt := nt_ty_lt T b (nt_nx T b p)
    obtain ⟨c1, c2, _⟩ := nt_cmps _ vt
    have F12 : nt_cF I2 I := nt_cF_t (nt_cF_54 F2 F2') F1
    have s2 : nt_sq I2 a v1 := nt_sq_F (fun c x y => F2 c (by omega)) s1
    rw [nt_at_7 A2, c1]
    refine ⟨fun q => h0 _ (if_neg (by omega)) I2 F12 A2, fun q => ?_⟩
    obtain ⟨c3, c4⟩ := c2 (by omega)
    refine ⟨fun _ => ?_, fun q => absurd c4 q⟩
    rw [c3]
    dsimp only at h0 h1
    rw [if_pos (by omega)] at h0 h1
    refine q_Ta_pass A2 fun I3 F3 F3' A3 => ?_
    have t4 := nt_ty_T (T := T) (b := b) (p := nt_nx T b p) (by omega)
    have t5 := nt_nx_lt (b := b) t4
    have t6 := nt_nx_le (b := b) t3
    have F13 : nt_cF I3 I := nt_cF_t (nt_cF_54 F3 F3') F12
    have s3 : nt_sq I3 a v1 := nt_sq_F (fun c x y => F3 c (by omega)) s2
    refine q_Ta_placeOfValue A3 s3 (fun x => by omega) (fun e => ?_) fun w2 e2 y v2 I4 F4 G4 l3 l4 A4 s4 r4 n4 => ?_
    · rw [e] at h0
      exact ⟨fun q => absurd rfl q, fun _ => h0 _ rfl I3 F13 A3⟩
    · have t7 := nt_vl_T e2
      have t8 := nt_nx_lt (b := b) t7.1
      rw [e2] at h0 h1
      refine ⟨fun _ => q_Ta_pass A4 fun I5 F5 F5' A5 => ?_, fun q => absurd q n4⟩
      have F15 : nt_cF I5 I := nt_cF_t (nt_cF_54 F5 F5') (nt_cF_t F4 F13)
      have s5 : nt_sq I5 a v2 := nt_sq_F (fun c x y => F5 c (by omega)) s4
      have r1' : ny_vs I5 v2 x w1 := by
        refine nt_vs_F (I := I1) (v := v1) (fun j hj => ?_) l3 r1
        rw [F5 66 (by decide), G4 j hj, F3 66 (by decide), F2 66 (by decide)]
      have r5 : ny_vs I5 v2 y w2 := nt_vs_F (fun j _ => by rw [F5 66 (by decide)]) (Nat.le_refl _) r4
      refine q_Ru_addStep s5 (by omega) (fun _ => ⟨r1', r5⟩) fun I6 F6 F6' s6 => ?_
      exact h1 _ _ rfl v2 I6 (nt_cF_t F6 F15) (nt_at_F (fun c x => F6' c (by omega)) A5) s6 (by omega)
def nt_g0 (T : Nat) (b : Nat → Nat) (I : ny_I) (Q : Int32 → ny_I → Prop) (r : nt_R) : Prop := ∀ q, r = (q, none) → ∀ I', nt_cF I' I → nt_at I' T b q → Q (nI 0) I'
def nt_g1 (T : Nat) (b : Nat → Nat) (I : ny_I) (Q : Int32 → ny_I → Prop) (r : nt_R) : Prop := ∀ q a', r = (q, some a') → ∀ v' I', nt_cF I' I → nt_at I' T b q → nt_sq I' a' v' → v' ≤ 5 + q → Q (nI 1) I'
/-- a state in the midst of a rule -/
def nt_S (I : ny_I) (T : Nat) (b : Nat → Nat) (p : Nat) (a : ny_a) : Prop := nt_at I T b p ∧ 2 * a 7 ≤ p ∧ ∃ v, nt_sq I a v ∧ v ≤ 5 + p
def nt_cD (T : Nat) (b : Nat → Nat) (d Ln : Nat) (m : ny_M) (xs : List Value) (E : Nat → ny_a → nt_R) : Prop := ∀ (I : ny_I) (Q : Int32 → ny_I → Prop) (p : Nat) (a : ny_a), nt_S I T b p a → nt_g0 T b I Q (E p a) → nt_g1 T b I Q (E p a) → ny_C1 d m xs Ln I Q
theorem nt_at_p {p : Nat} (hA : nt_at I T b p) : p ≤ T := by
  obtain ⟨n, k, _, _, _, g4, _⟩ := hA
  rw [← g4]; exact (nt_pl_st k).1
theorem nt_S_F {I I' : ny_I} {p q : Nat} (hS : nt_S I T b p a) (h1 : ∀ c, c ≠ 54 → I' c = I c) (hA : nt_at I' T b q) (hq : p ≤ q) : nt_S I' T b q a := by
  obtain ⟨_, s2, v, s3, s4⟩ := hS
  exact ⟨hA, by omega, v, nt_sq_F (fun c x y => h1 c (by omega)) s3, by omega⟩
theorem nt_nx_ge {p : Nat} : p ≤ nt_nx T b p := by
  have := nt_en_p (T := T) (b := b) (p := p)
  have := nt_nx_l (T := T) (b := b) (p := p)
  omega
theorem q_Ta_readOne {o : Bool} {x : Nat} {C : Nat → ny_a → nt_R} {M : Nat} (hx : x < 4) (ho : o = true ↔ x < 3) (hT : T ≤ 200) (hM : 1 ≤ M) (hO : ∀ p a, nt_ok T p a (C p a) M) (hC : o = true → nt_cD T b (d + 2) Ln m_Ta_readCondition [.ref 54, .int (nI (x + 1))] C) : nt_cD T b (d + 3) Ln m_Ta_readOne [.ref 54, .int (nI x)] (nt_on T b o C) := by
  intro I Q p a hS h0 h1
  refine s_Ta_readOne_0 ?_
  have hpT := nt_at_p hS.1
  have S2 := hS.2.1
  have e36 : ∀ p1 (t : Bool) (I1 : ny_I), nt_nt T b 200 p false = (p1, t) → nt_cF I1 I → nt_S I1 T b p1 a → ny_g (d + 3) m_Ta_readOne 36 [(0, .ref 54), (1, .int (nI x)), (2, .int (if t = true then nI 1 else nI 0))] [] Ln I1 (ny_r1 Ln Q) := by
    intro p1 t I1 hN F1 S1
    have hok := nt_on_ok (b := b) (o := o) hO hM (p := p) (a := a)
    have eq : nt_on T b o C p a = nt_bn (if o = true ∧ nt_ty T b p1 = 40 then nt_bn (C (nt_nx T b p1) a) (fun q a' => if nt_ty T b q = 41 then (nt_nx T b q, some a') else (q, none)) else nt_cm T b p1 a) fun q a' => (q, some (if t = true then nt_sa a' 3 0 0 else a')) := by
      unfold nt_on; rw [hN]
    have f0 : ∀ q I2, (if o = true ∧ nt_ty T b p1 = 40 then nt_bn (C (nt_nx T b p1) a) (fun q a' => if nt_ty T b q = 41 then (nt_nx T b q, some a') else (q, none)) else nt_cm T b p1 a) = (q, none) → nt_cF I2 I → nt_at I2 T b q → ny_g (d + 3) m_Ta_readOne 83 [(0, .ref 54), (2, .int (if t = true then nI 1 else nI 0)), (3, .int (nI 0))] [] Ln I2 (ny_r1 Ln Q) := by
      intro q I2 hX F A
      exact s_Ta_readOne_83 ⟨fun _ => ⟨Or.inl rfl, h0 q (by rw [eq, nt_bn_n hX]) I2 F A⟩, fun q => absurd rfl q⟩
    have f1 : ∀ q a2 v2 I2, (if o = true ∧ nt_ty T b p1 = 40 then nt_bn (C (nt_nx T b p1) a) (fun q a' => if nt_ty T b q = 41 then (nt_nx T b q, some a') else (q, none)) else nt_cm T b p1 a) = (q, some a2) → nt_cF I2 I → nt_at I2 T b q → nt_sq I2 a2 v2 → v2 ≤ 5 + q → ny_g (d + 3) m_Ta_readOne 83 [(0, .ref 54), (2, .int (if t = true then nI 1 else nI 0)), (3, .int (nI 1))] [] Ln I2 (ny_r1 Ln Q) := by
      intro q a2 v2 I2 hX F A s hv
      have e2 := eq.trans (nt_bn_s hX _)
      have hk := hok _ _ e2 hpT
      refine s_Ta_readOne_83 ⟨fun q => absurd q (by decide), fun _ => ?_⟩
      cases t with
      | false => exact ⟨fun _ => ⟨Or.inr rfl, h1 q a2 e2 v2 I2 F A s hv⟩, fun q => absurd rfl q⟩
      | true =>
        refine ⟨fun q => absurd q (by decide), fun _ => ?_⟩
        have h7 : nt_sa a2 3 0 0 7 = a2 7 + 1 := nt_sa_7
        have hk4 : 2 * nt_sa a2 3 0 0 7 + p ≤ q + 2 * a 7 := hk.2.2.2
        refine q_Ru_addStep (v1 := 0) (w1 := 0) s (by omega) (fun q => absurd q (by decide)) fun I3 F3 F3' s3 => ⟨Or.inr rfl, ?_⟩
        exact h1 q _ e2 v2 I3 (nt_cF_t F3 F) (nt_at_F (fun c x => F3' c (by omega)) A) s3 hv
    obtain ⟨A1, S12, v1, s1, hv1⟩ := S1
    have hp1 := nt_at_p A1
    have cmp : (if o = true ∧ nt_ty T b p1 = 40 then nt_bn (C (nt_nx T b p1) a) (fun q a' => if nt_ty T b q = 41 then (nt_nx T b q, some a') else (q, none)) else nt_cm T b p1 a) = nt_cm T b p1 a → ny_g (d + 3) m_Ta_readOne 78 [(0, .ref 54), (2, .int (if t = true then nI 1 else nI 0))] [] Ln I1 (ny_r1 Ln Q) := by
      intro hX
      refine s_Ta_readOne_78 (q_Ta_readComparison A1 s1 hv1 hT S12 (fun q e I2 F A => ?_) fun q a2 e v2 I2 F A s hv => ?_)
      · exact f0 q I2 (hX.trans e) (nt_cF_t F F1) A
      · exact f1 q a2 v2 I2 (hX.trans e) (nt_cF_t F F1) A s hv
    refine s_Ta_readOne_36 ?_
    rw [ny_lit, ny_le (by decide) (by omega)]
    refine ⟨fun c => cmp (if_neg fun q => by have := ho.mp q.1; omega), fun c => ?_⟩
    have ho1 : o = true := ho.mpr (by omega)
    refine q_Ta_passes (w := 40) A1 (by decide) (fun n => ?_) fun e I2 F2 F2' A2 => ?_
    · exact ⟨fun _ => cmp (if_neg fun q => n q.2), fun q => absurd rfl q⟩
    · refine ⟨fun q => absurd q (by decide), fun _ => ?_⟩
      have hX : (if o = true ∧ nt_ty T b p1 = 40 then nt_bn (C (nt_nx T b p1) a) (fun q a' => if nt_ty T b q = 41 then (nt_nx T b q, some a') else (q, none)) else nt_cm T b p1 a) = nt_bn (C (nt_nx T b p1) a) (fun q a' => if nt_ty T b q = 41 then (nt_nx T b q, some a') else (q, none)) := if_pos ⟨ho1, e⟩
      have FF : nt_cF I2 I := nt_cF_t (nt_cF_54 F2 F2') F1
      rw [nI_1]
      refine hC ho1 I2 _ (nt_nx T b p1) a (nt_S_F ⟨A1, S12, v1, s1, hv1⟩ F2 A2 nt_nx_ge) (fun q e3 I3 F3 A3 => ?_) fun q a3 e3 v3 I3 F3 A3 s3 hv3 => ?_
      · exact ⟨fun _ => f0 q I3 (hX.trans (nt_bn_n e3 _)) (nt_cF_t F3 FF) A3, fun q => absurd rfl q⟩
      · refine ⟨fun q => absurd q (by decide), fun _ => ?_⟩
        refine q_Ta_passes (w := 41) A3 (by decide) (fun n => ?_) fun e4 I4 F4 F4' A4 => ?_
        · exact ⟨fun _ => f0 q I3 ((hX.trans (nt_bn_s e3 _)).trans (if_neg n)) (nt_cF_t F3 FF) A3, fun q => absurd rfl q⟩
        · refine ⟨fun q => absurd q (by decide), fun _ => ?_⟩
          have := nt_nx_ge (T := T) (b := b) (p := q)
          exact f1 (nt_nx T b q) a3 v3 I4 ((hX.trans (nt_bn_s e3 _)).trans (if_pos e4)) (nt_cF_t (nt_cF_54 F4 F4') (nt_cF_t F3 FF)) A4 (nt_sq_F (fun c x y => F4 c (by omega)) s3) (by omega)
  have key : ∀ f p1 (t : Bool) (I1 : ny_I), f ≤ 200 → nt_nt T b 200 p false = nt_nt T b f p1 t → nt_cF I1 I → nt_S I1 T b p1 a → ny_g (d + 3) m_Ta_readOne 4 [(0, .ref 54), (1, .int (nI x)), (2, .int (if t = true then nI 1 else nI 0)), (3, .int (nI (200 - f)))] [] Ln I1 (ny_r1 Ln Q) := by
    intro f
    induction f with
    | zero =>
      intro p1 t I1 hf hN F1 S1
      exact s_Ta_readOne_4 ⟨fun _ => e36 p1 t I1 hN F1 S1, fun c => absurd (by decide) c⟩
    | succ f ih =>
      intro p1 t I1 hf hN F1 S1
      refine s_Ta_readOne_4 ?_
      rw [ny_lit, ny_le (by decide) (by omega)]
      refine ⟨fun c => absurd c (by omega), fun _ => ?_⟩
      have hN : nt_nt T b 200 p false = if nt_ty T b p1 = 17 then nt_nt T b f (nt_nx T b p1) (!t) else (p1, t) := hN
      refine q_Ta_passes (w := 17) S1.1 (by decide) (fun n => ?_) fun e I2 F2 F2' A2 => ?_
      · rw [if_neg n] at hN
        exact ⟨fun _ => e36 p1 t I1 hN F1 S1, fun q => absurd rfl q⟩
      · rw [if_pos e] at hN
        refine ⟨fun q => absurd q (by decide), fun _ => ?_⟩
        have en : nI (200 - (f + 1)) + 1 = nI (200 - f) := by rw [nI_1, show 200 - (f + 1) + 1 = 200 - f by omega]
        have FF : nt_cF I2 I := nt_cF_t (nt_cF_54 F2 F2') F1
        have S2 := nt_S_F S1 F2 A2 nt_nx_ge
        rw [en]
        cases t with
        | false => exact ⟨fun q => absurd rfl q, fun _ => ih _ true I2 (by omega) hN FF S2⟩
        | true => exact ⟨fun _ => ih _ false I2 (by omega) hN FF S2, fun q => absurd q (by decide)⟩
  exact key 200 p false I (Nat.le_refl _) rfl (nt_cF_r I) hS
theorem q_Ta_readAll {x : Nat} {E : Nat → ny_a → nt_R} {M : Nat} (hT : T ≤ 200) (hO : ∀ p a, nt_ok T p a (E p a) M) (hE : nt_cD T b (d + 3) Ln m_Ta_readOne [.ref 54, .int (nI x)] E) : nt_cD T b (d + 4) Ln m_Ta_readAll [.ref 54, .int (nI x)] (fun p a => nt_bn (E p a) (nt_lo T b E 15 4 200)) := by
  intro I Q p a hS h0 h1
  have hpT := nt_at_p hS.1
  have S2 := hS.2.1
  have key : ∀ f p1 a1 (I1 : ny_I), f ≤ 200 → nt_g0 T b I Q (nt_lo T b E 15 4 f p1 a1) → nt_g1 T b I Q (nt_lo T b E 15 4 f p1 a1) → nt_cF I1 I → nt_S I1 T b p1 a1 → ny_g (d + 4) m_Ta_readAll 12 [(0, .ref 54), (1, .int (nI x)), (2, .int (nI (200 - f)))] [] Ln I1 (ny_r1 Ln Q) := by
    intro f
    induction f with
    | zero =>
      intro p1 a1 I1 hf H0 H1 F1 S1
      obtain ⟨A1, T1, v1, s1, hv1⟩ := S1
      exact s_Ta_readAll_12 ⟨fun _ => H1 p1 a1 rfl v1 I1 F1 A1 s1 hv1, fun c => absurd (by decide) c⟩
    | succ f ih =>
      intro p1 a1 I1 hf H0 H1 F1 S1
      refine s_Ta_readAll_12 ?_
      rw [ny_lit, ny_le (by decide) (by omega)]
      refine ⟨fun c => absurd c (by omega), fun _ => ?_⟩
      refine q_Ta_passes (w := 15) S1.1 (by decide) (fun n => ?_) fun e I2 F2 F2' A2 => ?_
      · obtain ⟨A1, T1, v1, s1, hv1⟩ := S1
        exact ⟨fun _ => H1 p1 a1 (if_neg n) v1 I1 F1 A1 s1 hv1, fun q => absurd rfl q⟩
      · refine ⟨fun q => absurd q (by decide), fun _ => ?_⟩
        have en : nI (200 - (f + 1)) + 1 = nI (200 - f) := by rw [nI_1, show 200 - (f + 1) + 1 = 200 - f by omega]
        have FF : nt_cF I2 I := nt_cF_t (nt_cF_54 F2 F2') F1
        have h7 := nt_ty_w (T := T) (b := b) (p := p1) (by omega)
        have hp1 := nt_at_p S1.1
        have S12 := S1.2.1
        rw [en]
        refine hE I2 _ (nt_nx T b p1) a1 (nt_S_F S1 F2 A2 nt_nx_ge) (fun q e3 I3 F3 A3 => ?_) fun q a3 e3 v3 I3 F3 A3 s3 hv3 => ?_
        · exact ⟨fun q => absurd rfl q, fun _ => H0 q ((if_pos e).trans (nt_bn_n e3 _)) I3 (nt_cF_t F3 FF) A3⟩
        · have hk := hO _ _ _ _ e3 (nt_nx_le hp1)
          refine ⟨fun _ => ?_, fun q => absurd q (by decide)⟩
          refine q_Ru_addStep (s := 4) (v1 := 0) (w1 := 0) s3 (by omega) (fun q => absurd q (by decide)) fun I4 F4 F4' s4 => ?_
          have er : nt_lo T b E 15 4 (f + 1) p1 a1 = nt_lo T b E 15 4 f q (nt_sa a3 4 0 0) := (if_pos e).trans (nt_bn_s e3 _)
          rw [er] at H0 H1
          exact ih q _ I4 (by omega) H0 H1 (nt_cF_t F4 (nt_cF_t F3 FF)) ⟨nt_at_F (fun c x => F4' c (by omega)) A3, by rw [nt_sa_7]; omega, v3, s4, hv3⟩
  refine s_Ta_readAll_0 (hE I _ p a hS (fun q e3 I3 F3 A3 => ?_) fun q a3 e3 v3 I3 F3 A3 s3 hv3 => ?_)
  · exact ⟨fun q => absurd rfl q, fun _ => h0 q (nt_bn_n e3 _) I3 F3 A3⟩
  · have hk := hO _ _ _ _ e3 hpT
    refine ⟨fun _ => ?_, fun q => absurd q (by decide)⟩
    have er : nt_bn (E p a) (nt_lo T b E 15 4 200) = nt_lo T b E 15 4 200 q a3 := nt_bn_s e3 _
    dsimp only at h0 h1
    rw [er] at h0 h1
    exact key 200 q a3 I3 (Nat.le_refl _) h0 h1 F3 ⟨A3, by omega, v3, s3, hv3⟩
theorem q_Ta_readCondition {x : Nat} {E : Nat → ny_a → nt_R} {M : Nat} (hT : T ≤ 200) (hO : ∀ p a, nt_ok T p a (E p a) M) (hE : nt_cD T b (d + 4) Ln m_Ta_readAll [.ref 54, .int (nI x)] E) : nt_cD T b (d + 5) Ln m_Ta_readCondition [.ref 54, .int (nI x)] (fun p a => nt_bn (E p a) (nt_lo T b E 16 5 200)) := by
  intro I Q p a hS h0 h1
  have hpT := nt_at_p hS.1
  have S2 := hS.2.1
  have key : ∀ f p1 a1 (I1 : ny_I), f ≤ 200 → nt_g0 T b I Q (nt_lo T b E 16 5 f p1 a1) → nt_g1 T b I Q (nt_lo T b E 16 5 f p1 a1) → nt_cF I1 I → nt_S I1 T b p1 a1 → ny_g (d + 5) m_Ta_readCondition 12 [(0, .ref 54), (1, .int (nI x)), (2, .int (nI (200 - f)))] [] Ln I1 (ny_r1 Ln Q) := by
    intro f
    induction f with
    | zero =>
      intro p1 a1 I1 hf H0 H1 F1 S1
      obtain ⟨A1, T1, v1, s1, hv1⟩ := S1
      exact s_Ta_readCondition_12 ⟨fun _ => H1 p1 a1 rfl v1 I1 F1 A1 s1 hv1, fun c => absurd (by decide) c⟩
    | succ f ih =>
      intro p1 a1 I1 hf H0 H1 F1 S1
      refine s_Ta_readCondition_12 ?_
      rw [ny_lit, ny_le (by decide) (by omega)]
      refine ⟨fun c => absurd c (by omega), fun _ => ?_⟩
      refine q_Ta_passes (w := 16) S1.1 (by decide) (fun n => ?_) fun e I2 F2 F2' A2 => ?_
      · obtain ⟨A1, T1, v1, s1, hv1⟩ := S1
        exact ⟨fun _ => H1 p1 a1 (if_neg n) v1 I1 F1 A1 s1 hv1, fun q => absurd rfl q⟩
      · refine ⟨fun q => absurd q (by decide), fun _ => ?_⟩
        have en : nI (200 - (f + 1)) + 1 = nI (200 - f) := by rw [nI_1, show 200 - (f + 1) + 1 = 200 - f by omega]
        have FF : nt_cF I2 I := nt_cF_t (nt_cF_54 F2 F2') F1
        have h7 := nt_ty_w (T := T) (b := b) (p := p1) (by omega)
        have hp1 := nt_at_p S1.1
        have S12 := S1.2.1
        rw [en]
        refine hE I2 _ (nt_nx T b p1) a1 (nt_S_F S1 F2 A2 nt_nx_ge) (fun q e3 I3 F3 A3 => ?_) fun q a3 e3 v3 I3 F3 A3 s3 hv3 => ?_
        · exact ⟨fun q => absurd rfl q, fun _ => H0 q ((if_pos e).trans (nt_bn_n e3 _)) I3 (nt_cF_t F3 FF) A3⟩
        · have hk := hO _ _ _ _ e3 (nt_nx_le hp1)
          refine ⟨fun _ => ?_, fun q => absurd q (by decide)⟩
          refine q_Ru_addStep (s := 5) (v1 := 0) (w1 := 0) s3 (by omega) (fun q => absurd q (by decide)) fun I4 F4 F4' s4 => ?_
          have er : nt_lo T b E 16 5 (f + 1) p1 a1 = nt_lo T b E 16 5 f q (nt_sa a3 5 0 0) := (if_pos e).trans (nt_bn_s e3 _)
          rw [er] at H0 H1
          exact ih q _ I4 (by omega) H0 H1 (nt_cF_t F4 (nt_cF_t F3 FF)) ⟨nt_at_F (fun c x => F4' c (by omega)) A3, by rw [nt_sa_7]; omega, v3, s4, hv3⟩
  refine s_Ta_readCondition_0 (hE I _ p a hS (fun q e3 I3 F3 A3 => ?_) fun q a3 e3 v3 I3 F3 A3 s3 hv3 => ?_)
  · exact ⟨fun q => absurd rfl q, fun _ => h0 q (nt_bn_n e3 _) I3 F3 A3⟩
  · have hk := hO _ _ _ _ e3 hpT
    refine ⟨fun _ => ?_, fun q => absurd q (by decide)⟩
    have er : nt_bn (E p a) (nt_lo T b E 16 5 200) = nt_lo T b E 16 5 200 q a3 := nt_bn_s e3 _
    dsimp only at h0 h1
    rw [er] at h0 h1
    exact key 200 q a3 I3 (Nat.le_refl _) h0 h1 F3 ⟨A3, by omega, v3, s3, hv3⟩
theorem q_Ta_cond (hT : T ≤ 200) : ∀ L, L < 4 → ∀ d, nt_cD T b (d + 3 * L + 5) Ln m_Ta_readCondition [.ref 54, .int (nI (3 - L))] (nt_cd T b L) := by
  have gen : ∀ (o : Bool) (C : Nat → ny_a → nt_R) (x M d : Nat), x < 4 → (o = true ↔ x < 3) → 1 ≤ M → (∀ p a, nt_ok T p a (C p a) M) → (o = true → nt_cD T b (d + 2) Ln m_Ta_readCondition [.ref 54, .int (nI (x + 1))] C) → nt_cD T b (d + 5) Ln m_Ta_readCondition [.ref 54, .int (nI x)] (nt_cn T b o C) := by
    intro o C x M d hx ho hM hO hC
    have r1 := q_Ta_readOne hx ho hT hM hO hC
    have r2 := q_Ta_readAll hT (M := M) (fun p a => nt_on_ok hO hM) r1
    exact q_Ta_readCondition hT (M := M + 1) (fun p a => nt_al_ok hO hM) r2
  intro L
  induction L with
  | zero =>
    intro _ d
    refine gen false _ 3 1 d (by decide) (by decide) (by decide) (fun p a q a' h => ?_) (fun q => absurd q (by decide))
    injection h with _ h; injection h
  | succ L ih =>
    intro hL d
    have := ih (by omega) d
    refine gen true (nt_cd T b L) (3 - (L + 1)) (3 + 2 * L) (d + 3 * L + 3) (by omega) (by simp; omega) (by omega) (nt_cd_ok L) fun _ => ?_
    rw [show 3 - (L + 1) + 1 = 3 - L by omega]
    exact this
end NZCP
