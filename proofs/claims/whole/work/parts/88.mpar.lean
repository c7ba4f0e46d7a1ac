/-! the model: values, steps, comparisons -/
def nt_rF (I' I : ny_I) : Prop := ((∀ c, c ≠ 102 → c ≠ 103 → I' c = I c) ∧ ∀ j, 572 ≤ j → I' 103 j = I 103 j) ∧ ∀ j, j ≠ 6 → j ≠ 7 → j ≠ 8 → j ≠ 9 → j ≠ 10 → I' 102 j = I 102 j
theorem nt_rF_r (I : ny_I) : nt_rF I I := ⟨⟨fun _ _ _ => rfl, fun _ _ => rfl⟩, fun _ _ _ _ _ _ => rfl⟩
theorem nt_rF_t {I1 I2 I3 : ny_I} (h : nt_rF I1 I2) (h2 : nt_rF I2 I3) : nt_rF I1 I3 := ⟨⟨fun c x y => (h.1.1 c x y).trans (h2.1.1 c x y), fun j x => (h.1.2 j x).trans (h2.1.2 j x)⟩, fun j x y z w u => (h.2 j x y z w u).trans (h2.2 j x y z w u)⟩
theorem nt_rF_n {I' I : ny_I} (h : nt_nF I' I) : nt_rF I' I := ⟨⟨fun c x _ => h.1 c x, fun j _ => by rw [h.1 103 (by decide)]⟩, h.2⟩
def nt_sF (I' I : ny_I) : Prop := (∀ c, c ≠ 103 → I' c = I c) ∧ ∀ j, 572 ≤ j → I' 103 j = I 103 j
theorem nt_rF_3 {I' I : ny_I} (h : nt_sF I' I) : nt_rF I' I := ⟨⟨fun c _ x => h.1 c x, h.2⟩, fun j _ _ _ _ _ => by rw [h.1 102 (by decide)]⟩
theorem nt_Md_n {I' I : ny_I} {a : ny_a} (h : nt_nF I' I) (hM : ny_Md I a) : ny_Md I' a := fun j => by rw [h.1 103 (by decide)]; exact hM j
theorem nt_M_r {I' I : ny_I} {T : Nat} {b : Nat → Nat} (h : nt_rF I' I) (hM : nt_M I T b) : nt_M I' T b := ⟨by rw [h.2 5 (by decide) (by decide) (by decide) (by decide) (by decide)]; exact hM.1, fun j hj => by rw [h.1.1 106 (by decide) (by decide)]; exact hM.2 j hj⟩
theorem nt_mt_F {I' I : ny_I} {T : Nat} {b : Nat → Nat} {p : Nat} (h : I' 102 7 = I 102 7 ∧ I' 102 8 = I 102 8 ∧ I' 102 6 = I 102 6 ∧ I' 102 9 = I 102 9) (ht : nt_mt I T b p) : nt_mt I' T b p := by
  obtain ⟨h7, h8, h6, h9⟩ := h
  unfold nt_mt
  rw [h7, h8, h6, h9]
  exact ht
section NZMP
variable {d Ln : Nat} {I : ny_I} {Q : Int32 → ny_I → Prop} {Q0 : ny_I → Prop} {T : Nat} {b : Nat → Nat} {p : Nat} {a : ny_a}
theorem q_Md_kindHere (hM : nt_M I T b) (hV : nt_V T b) (ht : nt_mt I T b p) (h1 : nt_ty T b p < 6 → Q (nI (nt_ty T b p)) I) (h0 : ¬ nt_ty T b p < 6 → Q (-1) I) : ny_C1 (d + 2) m_Md_kindHere [.ref 102] Ln I Q := by
  refine s_Md_kindHere_0 (nt_q6 (k := 0) hM hV ht (by decide) (by decide) (by decide) (by decide) (fun n0 => ?_) fun e => by rw [e] at h1; exact h1 (by decide))
  refine s_Md_kindHere_33 (nt_q6 (k := 1) hM hV ht (by decide) (by decide) (by decide) (by decide) (fun n1 => ?_) fun e => by rw [e] at h1; exact h1 (by decide))
  have r5 : ¬ nt_ty T b p = 2 → ¬ nt_ty T b p = 3 → ny_g (d + 2) m_Md_kindHere 117 [(0, .ref 102)] [] Ln I (ny_r1 Ln Q) := by
    intro n2 n3
    refine s_Md_kindHere_117 (nt_q6 (k := 4) hM hV ht (by decide) (by decide) (by decide) (by decide) (fun n4 => ?_) fun e => by rw [e] at h1; exact h1 (by decide))
    exact s_Md_kindHere_150 (nt_q7 (k := 5) hM hV ht (by decide) (by decide) (by decide) (by decide) (fun n5 => h0 (by omega)) fun e => by rw [e] at h1; exact h1 (by decide))
  refine s_Md_kindHere_66 (nt_q4 (k := 2) hM hV ht (by decide) (by decide) (by decide) (by decide) (fun n2 => ⟨fun _ => ?_, fun q => absurd rfl q⟩) fun e => ⟨fun q => absurd q (by decide), fun _ => by rw [e] at h1; exact h1 (by decide)⟩)
  exact nt_q6 (k := 3) hM hV ht (by decide) (by decide) (by decide) (by decide) (fun n3 => r5 n2 n3) fun e => by rw [e] at h1; exact h1 (by decide)
theorem q_Md_doHere (hM : nt_M I T b) (hV : nt_V T b) (ht : nt_mt I T b p) (h1 : 6 ≤ nt_ty T b p → nt_ty T b p ≤ 8 → Q (nI (nt_ty T b p - 6)) I) (h0 : ¬ (6 ≤ nt_ty T b p ∧ nt_ty T b p ≤ 8) → Q (-1) I) : ny_C1 (d + 2) m_Md_doHere [.ref 102] Ln I Q := by
  refine s_Md_doHere_0 (nt_q7 (k := 6) hM hV ht (by decide) (by decide) (by decide) (by decide) (fun n0 => ?_) fun e => by rw [e] at h1; exact h1 (by decide) (by decide))
  refine s_Md_doHere_33 (nt_q4 (k := 7) hM hV ht (by decide) (by decide) (by decide) (by decide) (fun n2 => ⟨fun _ => ?_, fun q => absurd rfl q⟩) fun e => ⟨fun q => absurd q (by decide), fun _ => by rw [e] at h1; exact h1 (by decide) (by decide)⟩)
  exact nt_q5 (k := 8) hM hV ht (by decide) (by decide) (by decide) (by decide) (fun n3 => h0 (by omega)) fun e => by rw [e] at h1; exact h1 (by decide) (by decide)
theorem q_Md_factHere (hM : nt_M I T b) (hV : nt_V T b) (ht : nt_mt I T b p) (h1 : 9 ≤ nt_ty T b p → nt_ty T b p < 14 → Q (nI (nt_ty T b p - 9)) I) (h0 : ¬ (9 ≤ nt_ty T b p ∧ nt_ty T b p < 14) → Q (-1) I) : ny_C1 (d + 2) m_Md_factHere [.ref 102] Ln I Q := by
  have r3 : ¬ nt_ty T b p = 9 → ¬ nt_ty T b p = 10 → ny_g (d + 2) m_Md_factHere 51 [(0, .ref 102)] [] Ln I (ny_r1 Ln Q) := by
    intro n0 n1
    refine s_Md_factHere_51 (nt_q5 (k := 11) hM hV ht (by decide) (by decide) (by decide) (by decide) (fun n2 => ?_) fun e => by rw [e] at h1; exact h1 (by decide) (by decide))
    refine s_Md_factHere_84 (nt_q6 (k := 12) hM hV ht (by decide) (by decide) (by decide) (by decide) (fun n3 => ?_) fun e => by rw [e] at h1; exact h1 (by decide) (by decide))
    exact s_Md_factHere_117 (nt_q6n (k := 13) hM hV ht (by decide) (by decide) (by decide) (by decide) (fun n4 => h0 (by omega)) fun e => by rw [e] at h1; exact h1 (by decide) (by decide))
  refine s_Md_factHere_0 (nt_q4 (k := 9) hM hV ht (by decide) (by decide) (by decide) (by decide) (fun n2 => ⟨fun _ => ?_, fun q => absurd rfl q⟩) fun e => ⟨fun q => absurd q (by decide), fun _ => by rw [e] at h1; exact h1 (by decide) (by decide)⟩)
  exact nt_q5 (k := 10) hM hV ht (by decide) (by decide) (by decide) (by decide) (fun n3 => r3 n2 n3) fun e => by rw [e] at h1; exact h1 (by decide) (by decide)
theorem q_Md_valueHere {w : Nat} (hM : nt_M I T b) (hV : nt_V T b) (ht : nt_mt I T b p) (hw : I 102 10 = nI w) (hw1 : w ≤ 1) (hW : (w = 1 ∨ nt_vl T b p = none) → ∀ x I', nt_nF I' I → nt_mt I' T b p → I' 102 10 = nI 1 → Q x I') (hN : w = 0 → ∀ v, nt_vl T b p = some v → ∀ I', nt_nF I' I → nt_mt I' T b (nt_nx T b p) → I' 102 10 = nI 0 → Q (nI v) I') : ny_C1 (d + 3) m_Md_valueHere [.ref 102] Ln I Q := by
  have v := hV.1
  obtain ⟨k0, k00, k1, k2, k3⟩ := nt_ki_p T b p
  have ep := nt_en_p (T := T) (b := b) (p := p)
  have ep2 := ep.2.1 ht.1
  refine s_Md_valueHere_0 (q_Md_factHere hM hV ht (fun c1 c2 => ?_) fun c => ?_)
  · have e0 : nI (nt_ty T b p - 9) < 0 ↔ nt_ty T b p - 9 < 0 := ny_lt (b := 0) (by omega) (by decide)
    have e1 : (0 : Int32) ≤ nI (nt_ty T b p - 9) := (ny_le (a := 0) (by decide) (by omega)).mpr (by omega)
    rw [e0]
    refine ⟨fun q => absurd q (by omega), fun _ => s_Md_valueHere_21 ⟨fun _ => s_Md_valueHere_53 (q_Md_needs hM hV ht hw hw1 (fun hc I' F t e => ?_) fun hc _ I' F t e => ?_), fun q => absurd e1 q⟩⟩
    · exact hW (Or.inl (by rcases hc with x | x; exact x; exact absurd x (by decide))) _ I' F t e
    · have hv : nt_vl T b p = some (10000 + (nt_ty T b p - 9)) := by unfold nt_vl; rw [if_neg (by omega), if_pos (by omega)]
      have := hN hc _ hv I' F t e
      rw [show (10000 : Int32) + nI (nt_ty T b p - 9) = nI (10000 + (nt_ty T b p - 9)) from nI_add 10000 _]
      exact this
  · refine ⟨fun _ => ?_, fun q => absurd (by decide) q⟩
    refine s_Md_valueHere_21 ⟨fun q => absurd q (by decide), fun _ => ?_⟩
    have e2 : nI (nt_ki T b p) = 2 ↔ nt_ki T b p = 2 := ny_eq (b := 2) (by omega) (by decide)
    have e4 : (4 : Int32) < nI (nt_en T b p - p) ↔ 4 < nt_en T b p - p := ny_lt (a := 4) (by decide) (by omega)
    rw [ht.2.2.2.1, ht.2.2.1, ht.2.1, pk_sub ep.1, e2, e4]
    have bad : nt_vl T b p = none → ∀ t0, ny_g (d + 3) m_Md_valueHere 53 [(2, .int t0)] [.int 0, .ref 102] Ln I (ny_r1 Ln Q) := fun hz t0 =>
      s_Md_valueHere_53 (q_Md_needs hM hV ht hw hw1 (fun hc I' F t e => hW (Or.inr hz) _ I' F t e) fun _ hc => absurd rfl hc)
    have h18 : ¬ nt_ty T b p = 18 → nt_vl T b p = none := fun q => by unfold nt_vl; rw [if_neg q, if_neg c]
    refine ⟨fun q => bad (h18 fun z => q (k2.mpr ⟨(nt_ty_n z).1, (nt_ty_n z).2.2.1⟩)) _, fun q => ⟨fun q2 => bad (h18 fun z => by have := (nt_ty_n z).2.2.2.1; omega) _, fun q2 => ?_⟩⟩
    have h2 := k2.mp q
    have z : nt_ty T b p = 18 := by
      unfold nt_ty
      rw [if_pos h2.1, if_neg (by rw [(nt_dl h2.2).1]; decide), if_pos h2.2, if_pos (by omega)]
    have ht2 := ht
    obtain ⟨_, _, _, _, vv, v1, v2, v3⟩ := ht2
    have hv : nt_vl T b p = some (nt_val T b p) := by unfold nt_vl; rw [if_pos z]
    rw [v1, v3 z]
    exact s_Md_valueHere_53 (q_Md_needs hM hV ht hw hw1 (fun hc I' F t e => hW (Or.inl (by rcases hc with x | x; exact x; exact absurd x (by decide))) _ I' F t e) fun hc _ I' F t e => hN hc _ hv I' F t e)
theorem q_Md_stepsW {x y z : Int32} (hw : I 102 10 = nI 1) (h : Q0 I) : ny_C0 d m_Md_steps [.ref 102, .int x, .int y, .int z] Ln I Q0 := by
  refine s_Md_steps_0 ⟨fun _ => h, fun c => ?_⟩
  rw [hw] at c; exact absurd c (by decide)
theorem q_Md_steps {s v w : Nat} (hw : I 102 10 = nI 0) (hD : ny_Md I a) (h7 : a 7 ≤ 149) (h : ∀ I', nt_sF I' I → ny_Md I' (nt_sa a s v w) → Q0 I') : ny_C0 d m_Md_steps [.ref 102, .int (nI s), .int (nI v), .int (nI w)] Ln I Q0 := by
  refine s_Md_steps_0 ⟨fun c => absurd hw c, fun _ => ?_⟩
  have c7 : Int32.toNatClampNeg 7 = 7 := rfl
  have e1 : (122 : Int32) + 3 * nI (a 7) = nI (122 + 3 * a 7) := by rw [show (3 : Int32) * nI (a 7) = nI (3 * a 7) from ny_mul 3 _]; exact nI_add 122 _
  have e2 : nI (122 + 3 * a 7) + 1 = nI (123 + 3 * a 7) := by rw [nI_1, show 122 + 3 * a 7 + 1 = 123 + 3 * a 7 by omega]
  have e3 : nI (122 + 3 * a 7) + 2 = nI (124 + 3 * a 7) := by rw [show nI (122 + 3 * a 7) + 2 = nI (122 + 3 * a 7 + 2) from nI_add _ 2, show 122 + 3 * a 7 + 2 = 124 + 3 * a 7 by omega]
  have k1 : ∀ x, ny_up I 103 (122 + 3 * a 7) x 103 7 = nI (a 7) := fun x => by rw [ny_uprd, if_neg (by omega)]; exact hD 7
  have k2 : ∀ x y, ny_up (ny_up I 103 (122 + 3 * a 7) x) 103 (123 + 3 * a 7) y 103 7 = nI (a 7) := fun x y => by rw [ny_uprd, if_neg (by omega)]; exact k1 x
  have k3 : ∀ x y z, ny_up (ny_up (ny_up I 103 (122 + 3 * a 7) x) 103 (123 + 3 * a 7) y) 103 (124 + 3 * a 7) z 103 7 = nI (a 7) := fun x y z => by rw [ny_uprd, if_neg (by omega)]; exact k2 x y
  have c1 : (nI (122 + 3 * a 7)).toNatClampNeg = 122 + 3 * a 7 := nI_clamp (by omega)
  have c2 : (nI (123 + 3 * a 7)).toNatClampNeg = 123 + 3 * a 7 := nI_clamp (by omega)
  have c3 : (nI (124 + 3 * a 7)).toNatClampNeg = 124 + 3 * a 7 := nI_clamp (by omega)
  rw [c7, hD 7, e1, c1, k1, e1, e2, c2, k2, e1, e3, c3, k3, nI_1]
  refine ⟨by decide, ny_inN (by omega) (by decide), by decide, ny_inN (by omega) (by decide), by decide, ny_inN (by omega) (by decide), by decide, by decide, h _ ⟨fun c hc => ?_, fun j hj => ?_⟩ fun j => ?_⟩
  · rw [ny_upne _ hc, ny_upne _ hc, ny_upne _ hc, ny_upne _ hc]
  · rw [ny_uprd, if_neg (by omega), ny_uprd, if_neg (by omega), ny_uprd, if_neg (by omega), ny_uprd, if_neg (by omega)]
  · unfold nt_sa
    rw [ny_uprd, ny_uprd, ny_uprd, ny_uprd]
    by_cases j7 : j = 7
    · rw [if_pos ⟨rfl, j7⟩, if_pos j7]
    · rw [if_neg (fun q => j7 q.2), if_neg j7]
      by_cases j4 : j = 124 + 3 * a 7
      · rw [if_pos ⟨rfl, j4⟩, if_neg (by omega), if_neg (by omega), if_pos j4]
      · rw [if_neg (fun q => j4 q.2)]
        by_cases j3 : j = 123 + 3 * a 7
        · rw [if_pos ⟨rfl, j3⟩, if_neg (by omega), if_pos j3]
        · rw [if_neg (fun q => j3 q.2)]
          by_cases j2 : j = 122 + 3 * a 7
          · rw [if_pos ⟨rfl, j2⟩, if_pos j2]
          · rw [if_neg (fun q => j2 q.2), if_neg j2, if_neg j3, if_neg j4]; exact hD j
def nt_h0 (T : Nat) (b : Nat → Nat) (I : ny_I) (Q0 : ny_I → Prop) (r : nt_R) : Prop := ∀ q, r = (q, none) → ∀ I', nt_rF I' I → nt_M I' T b → nt_mt I' T b q → I' 102 10 = nI 1 → Q0 I'
def nt_h1 (T : Nat) (b : Nat → Nat) (I : ny_I) (Q0 : ny_I → Prop) (r : nt_R) : Prop := ∀ q a', r = (q, some a') → ∀ I', nt_rF I' I → nt_M I' T b → nt_mt I' T b q → I' 102 10 = nI 0 → ny_Md I' a' → Q0 I'
theorem q_Md_comparesHere (hM : nt_M I T b) (hV : nt_V T b) (ht : nt_mt I T b p) (hw : I 102 10 = nI 0) (hD : ny_Md I a) (h7 : 2 * a 7 ≤ p) (h0 : nt_h0 T b I Q0 (nt_cm T b p a)) (h1 : nt_h1 T b I Q0 (nt_cm T b p a)) : ny_C0 (d + 4) m_Md_comparesHere [.ref 102] Ln I Q0 := by
  have v := hV.1
  have hp := ht.1
  refine s_Md_comparesHere_0 ?_
  have sg0 : nt_sg 60 := by decide
  have sg1 : nt_sg 61 := by decide
  have sg2 : nt_sg 62 := by decide
  /- from the sign on: w tells whether something is wrong, at p1 -/
  have rest : ∀ (I1 : ny_I) (p1 w : Nat) (x1 : Int32), nt_M I1 T b → nt_mt I1 T b p1 → I1 102 10 = nI w → w ≤ 1 → (∀ (I2 : ny_I) (s w2 p2 : Nat), (w = 1 → w2 = 1 ∧ p2 = p1) → (w = 0 → ¬ (60 ≤ nt_ty T b p1) → w2 = 1 ∧ p2 = p1) → (w = 0 → 60 ≤ nt_ty T b p1 → w2 = 0 ∧ p2 = nt_nx T b p1 ∧ s = nt_ty T b p1 - 60) → w2 ≤ 1 → nt_nF I2 I1 → nt_mt I2 T b p2 → I2 102 10 = nI w2 → ny_C1 (d + 3) m_Md_valueHere [.ref 102] Ln I2 fun r3 I3 => ny_C0 (d + 3) m_Md_steps [.ref 102, .int (nI s), .int x1, .int r3] Ln I3 fun I4 => Q0 I4) → ny_C1 (d + 3) m_Md_isByte [.ref 102, .int 60] Ln I1 (fun r4 I3 => (r4 = 0 → ny_C1 (d + 3) m_Md_isByte [.ref 102, .int 61] Ln I3 (fun r6 I5 => (r6 = 0 → ny_g (d + 4) m_Md_comparesHere 32 [(0, .ref 102), (1, .int x1)] [.int 2] Ln I5 (ny_r0 Ln Q0)) ∧ (¬ r6 = 0 → ny_g (d + 4) m_Md_comparesHere 32 [(0, .ref 102), (1, .int x1)] [.int 1] Ln I5 (ny_r0 Ln Q0)))) ∧ (¬ r4 = 0 → ny_g (d + 4) m_Md_comparesHere 32 [(0, .ref 102), (1, .int x1)] [.int 0] Ln I3 (ny_r0 Ln Q0))) := by
    intro I1 p1 w x1 M1 t1 hw1 hwl k
    have vt := nt_ty_lt T b p1
    have g66 : ∀ (s : Nat) (y : Nat), (60 ≤ nt_ty T b p1 → s = nt_ty T b p1 - 60 ∧ y = 1) → (¬ 60 ≤ nt_ty T b p1 → y = 0) → y ≤ 1 → ny_g (d + 4) m_Md_comparesHere 66 [(0, .ref 102), (1, .int x1), (2, .int (nI s))] [.int (nI y), .ref 102] Ln I1 (ny_r0 Ln Q0) := by
      intro s y hs hy hy1
      refine s_Md_comparesHere_66 (q_Md_needs M1 hV t1 hw1 hwl (fun hc I2 F t e => ?_) fun hc hx I2 F t e => ?_)
      · refine k I2 s 1 p1 (fun _ => ⟨rfl, rfl⟩) (fun _ _ => ⟨rfl, rfl⟩) (fun z1 z2 => ?_) (by decide) F t e
        exfalso
        rcases hc with x | x
        · omega
        · rw [(hs z2).2] at x; exact absurd x (by decide)
      · refine k I2 s 0 (nt_nx T b p1) (fun z => by omega) (fun _ z => ?_) (fun _ z => ⟨rfl, rfl, (hs z).1⟩) (by decide) F t e
        exfalso
        rw [hy z] at hx; exact hx rfl
    have g32 : ∀ s : Nat, (60 ≤ nt_ty T b p1 → s = nt_ty T b p1 - 60) → ny_g (d + 4) m_Md_comparesHere 32 [(0, .ref 102), (1, .int x1)] [.int (nI s)] Ln I1 (ny_r0 Ln Q0) := by
      intro s hs
      refine s_Md_comparesHere_32 (q_Md_isByte (c := 60) M1 hV t1 sg0 ?_)
      by_cases c0 : nt_ty T b p1 = 60
      · rw [if_pos c0]
        exact ⟨fun _ => g66 s 1 (fun z => ⟨hs z, rfl⟩) (fun z => by omega) (by decide), fun q => absurd q (by decide)⟩
      · rw [if_neg c0]
        refine ⟨fun q => absurd rfl q, fun _ => q_Md_isByte (c := 61) M1 hV t1 sg1 ?_⟩
        by_cases c1 : nt_ty T b p1 = 61
        · rw [if_pos c1]
          exact ⟨fun _ => g66 s 1 (fun z => ⟨hs z, rfl⟩) (fun z => by omega) (by decide), fun q => absurd q (by decide)⟩
        · rw [if_neg c1]
          refine ⟨fun q => absurd rfl q, fun _ => q_Md_isByte (c := 62) M1 hV t1 sg2 ?_⟩
          by_cases c2 : nt_ty T b p1 = 62
          · rw [if_pos c2]
            exact ⟨fun q => absurd q (by decide), fun _ => g66 s 1 (fun z => ⟨hs z, rfl⟩) (fun z => by omega) (by decide)⟩
          · rw [if_neg c2]
            exact ⟨fun _ => g66 s 0 (fun z => by omega) (fun _ => rfl) (by decide), fun q => absurd rfl q⟩
    refine q_Md_isByte (c := 60) M1 hV t1 sg0 ?_
    by_cases c0 : nt_ty T b p1 = 60
    · rw [if_pos c0]
      exact ⟨fun q => absurd q (by decide), fun _ => g32 0 (fun _ => by omega)⟩
    · rw [if_neg c0]
      refine ⟨fun _ => q_Md_isByte (c := 61) M1 hV t1 sg1 ?_, fun q => absurd rfl q⟩
      by_cases c1 : nt_ty T b p1 = 61
      · rw [if_pos c1]
        exact ⟨fun q => absurd q (by decide), fun _ => g32 1 (fun _ => by omega)⟩
      · rw [if_neg c1]
        exact ⟨fun _ => g32 2 (fun _ => by omega), fun q => absurd rfl q⟩
  unfold nt_cm at h0 h1
  refine q_Md_valueHere hM hV ht hw (by decide) (fun hc x I1 F1 t1 e1 => ?_) fun _ v1 hv1 I1 F1 t1 e1 => ?_
  · have hc : nt_vl T b p = none := by rcases hc with z | z; exact absurd z (by decide); exact z
    rw [hc] at h0
    refine rest I1 p 1 x (nt_M_n F1 hM) t1 e1 (by decide) fun I2 s w2 p2 k1 k2 k3 k4 F2 t2 e2 => ?_
    obtain ⟨w21, p21⟩ := k1 rfl
    subst w21 p21
    have M2 := nt_M_n F2 (nt_M_n F1 hM)
    refine q_Md_valueHere M2 hV t2 e2 (by decide) (fun _ y I3 F3 t3 e3 => q_Md_stepsW e3 ?_) fun z => absurd z (by decide)
    exact h0 _ rfl I3 (nt_rF_n (nt_nF_t F3 (nt_nF_t F2 F1))) (nt_M_n F3 M2) t3 e3
  · rw [hv1] at h0 h1
    refine rest I1 (nt_nx T b p) 0 (nI v1) (nt_M_n F1 hM) t1 e1 (by decide) fun I2 s w2 p2 k1 k2 k3 k4 F2 t2 e2 => ?_
    have M2 := nt_M_n F2 (nt_M_n F1 hM)
    by_cases h60 : 60 ≤ nt_ty T b (nt_nx T b p)
    · obtain ⟨w21, p21, s21⟩ := k3 rfl h60
      subst w21 p21 s21
      dsimp only at h0 h1
      rw [if_pos h60] at h0 h1
      refine q_Md_valueHere M2 hV t2 e2 (by decide) (fun hc y I3 F3 t3 e3 => q_Md_stepsW e3 ?_) fun _ v2 hv2 I3 F3 t3 e3 => ?_
      · have hc : nt_vl T b (nt_nx T b (nt_nx T b p)) = none := by rcases hc with z | z; exact absurd z (by decide); exact z
        rw [hc] at h0
        exact h0 _ rfl I3 (nt_rF_n (nt_nF_t F3 (nt_nF_t F2 F1))) (nt_M_n F3 M2) t3 e3
      · rw [hv2] at h1
        have F31 := nt_nF_t F3 (nt_nF_t F2 F1)
        refine q_Md_steps e3 (nt_Md_n F31 hD) (by omega) fun I4 F4 D4 => ?_
        have M3 := nt_M_n F3 M2
        exact h1 _ _ rfl I4 (nt_rF_t (nt_rF_3 F4) (nt_rF_n F31)) (nt_M_r (nt_rF_3 F4) M3) (nt_mt_F ⟨by rw [F4.1 102 (by decide)], by rw [F4.1 102 (by decide)], by rw [F4.1 102 (by decide)], by rw [F4.1 102 (by decide)]⟩ t3) (by rw [F4.1 102 (by decide)]; exact e3) D4
    · obtain ⟨w21, p21⟩ := k2 rfl h60
      subst w21 p21
      dsimp only at h0
      rw [if_neg h60] at h0
      refine q_Md_valueHere M2 hV t2 e2 (by decide) (fun _ y I3 F3 t3 e3 => q_Md_stepsW e3 ?_) fun z => absurd z (by decide)
      exact h0 _ rfl I3 (nt_rF_n (nt_nF_t F3 (nt_nF_t F2 F1))) (nt_M_n F3 M2) t3 e3
end NZMP
