/-! the model: rules -/
section NZMR
variable {d Ln : Nat} {I : ny_I} {Q : Int32 → ny_I → Prop} {Q0 : ny_I → Prop} {T : Nat} {b : Nat → Nat} {p : Nat} {a : ny_a}
def nt_k0 (T : Nat) (b : Nat → Nat) (I : ny_I) (Q0 : ny_I → Prop) (r : nt_R) : Prop := ∀ q, r = (q, none) → ∀ I', nt_oF I' I → nt_M I' T b → nt_mt I' T b q → I' 102 10 = nI 1 → Q0 I'
def nt_k1 (T : Nat) (b : Nat → Nat) (I : ny_I) (Q0 : ny_I → Prop) (r : nt_R) : Prop := ∀ q a', r = (q, some a') → ∀ I', nt_oF I' I → nt_M I' T b → nt_mt I' T b q → I' 102 10 = nI 0 → ny_Md I' a' → Q0 I'
theorem nt_oF_n {I1 I2 : ny_I} (h : nt_nF I1 I2) : nt_oF I1 I2 := nt_oF_r (nt_rF_n h)
theorem q_Md_r97W {x1 x2 x3 x4 t1 : Int32} (hM : nt_M I T b) (hV : nt_V T b) (ht : nt_mt I T b p) (hw : I 102 10 = nI 1) (h : ∀ I', nt_nF I' I → nt_mt I' T b p → I' 102 10 = nI 1 → Q0 I') : ny_g (d + 4) m_Md_ruleHere 97 [(0, .ref 102), (1, .int x1), (2, .int x2), (3, .int x3), (4, .int x4)] [.int t1, .ref 102] Ln I (ny_r0 Ln Q0) := by
  refine s_Md_ruleHere_97 (q_Md_needs hM hV ht hw (by decide) (fun _ I2 F2 t2 e2 => ?_) fun z => absurd z (by decide))
  have M2 := nt_M_n F2 hM
  refine q_Md_isByte (c := 59) M2 hV t2 (by decide) (q_Md_needs M2 hV t2 e2 (by decide) (fun _ I3 F3 t3 e3 => ⟨fun _ => h I3 (nt_nF_t F3 F2) t3 e3, fun c => ?_⟩) fun z => absurd z (by decide))
  rw [e3] at c; exact absurd c nt_n1
theorem q_Md_r80W {x1 x2 x3 : Int32} (hM : nt_M I T b) (hV : nt_V T b) (ht : nt_mt I T b p) (hw : I 102 10 = nI 1) (h : ∀ I', nt_nF I' I → nt_mt I' T b p → I' 102 10 = nI 1 → Q0 I') : ny_g (d + 4) m_Md_ruleHere 80 [(0, .ref 102), (1, .int x1), (2, .int x2), (3, .int x3)] [] Ln I (ny_r0 Ln Q0) := by
  refine s_Md_ruleHere_80 (q_Md_doHere hM hV ht (fun _ _ => ⟨fun _ => ?_, fun _ => ?_⟩) fun _ => ⟨fun _ => ?_, fun _ => ?_⟩)
  · exact q_Md_r97W hM hV ht hw h
  · exact q_Md_r97W hM hV ht hw h
  · exact q_Md_r97W hM hV ht hw h
  · exact q_Md_r97W hM hV ht hw h
theorem q_Md_ruleHere (hV : nt_V T b) (hM : nt_M I T b) (ht : nt_mt I T b p) (hw : I 102 10 = nI 0) (hD : ny_Md I a) (hI : nt_I a p T) (h0 : nt_k0 T b I Q0 (nt_ru T b p a)) (h1 : nt_k1 T b I Q0 (nt_ru T b p a)) : ny_C0 (d + 17) m_Md_ruleHere [.ref 102] Ln I Q0 := by
  have hT := hV.1
  have hp := ht.1
  have i5 := hI.1.1.2.2.2.2.1
  have i2 := hI.2.1
  have c5 : Int32.toNatClampNeg 5 = 5 := rfl
  have c7 : Int32.toNatClampNeg 7 = 7 := rfl
  have e66 : (66 : Int32) + 4 * nI (a 5) = nI (66 + 4 * a 5) := by rw [show (4 : Int32) * nI (a 5) = nI (4 * a 5) from ny_mul 4 _]; exact nI_add 66 _
  have w38 : ∀ (x2 : Int32), ¬ (nt_ty T b p < 6 ∧ a 5 < 8) → ny_g (d + 17) m_Md_ruleHere 38 [(0, .ref 102), (1, .int (nI (66 + 4 * a 5))), (2, .int x2)] [.int 0, .ref 102] Ln I (ny_r0 Ln Q0) := by
    intro x2 hn
    refine s_Md_ruleHere_38 (q_Md_needs hM hV ht hw (by decide) (fun _ I1 F1 t1 e1 => ⟨by decide, fun _ => ?_, fun c => ?_⟩) fun _ z => absurd rfl z)
    · have M1 := nt_M_n F1 hM
      exact q_Md_r80W M1 hV t1 e1 fun I2 F2 t2 e2 => h0 p (if_neg hn) I2 (nt_oF_n (nt_nF_t F2 F1)) (nt_M_n F2 M1) t2 e2
    · rw [e1] at c; exact absurd c nt_n1
  refine s_Md_ruleHere_0 ⟨by decide, ?_⟩
  rw [c5, hD 5, e66]
  refine q_Md_kindHere hM hV ht (fun hk => ?_) fun hk => ?_
  · have e0 : nI (nt_ty T b p) < 0 ↔ nt_ty T b p < 0 := ny_lt (b := 0) (by omega) (by decide)
    have e8 : (8 : Int32) ≤ nI (a 5) ↔ 8 ≤ a 5 := ny_le (a := 8) (by decide) (by omega)
    rw [e0, hD 5, e8]
    refine ⟨fun z => absurd z (by omega), fun _ => ⟨by decide, fun z => w38 _ (by omega), fun z => ?_⟩⟩
    have hpT := nt_ty_T (T := T) (b := b) (p := p) (by omega)
    have er : nt_ru T b p a = nt_bn (if nt_ty T b (nt_nx T b p) = 14 then nt_cd T b 3 (nt_nx T b (nt_nx T b p)) a else (nt_nx T b p, some a)) fun q a1 => if 6 ≤ nt_ty T b q ∧ nt_ty T b q ≤ 8 then (if nt_ty T b (nt_nx T b q) = 59 then (nt_nx T b (nt_nx T b q), some (nt_ra a1 (nt_ty T b p) (nt_ty T b q - 6) (a 7))) else (nt_nx T b q, none)) else (q, none) := if_pos ⟨hk, by omega⟩
    rw [er] at h0 h1
    refine s_Md_ruleHere_38 (q_Md_needs hM hV ht hw (by decide) (fun hc => ?_) fun _ _ I1 F1 t1 e1 => ?_)
    · exfalso
      rcases hc with y | y
      · exact absurd y (by decide)
      · exact absurd y (by decide)
    have M1 := nt_M_n F1 hM
    have D1 := nt_Md_n F1 hD
    have p1T := t1.1
    rw [c7, D1 7]
    have e80 : ∀ q a1 (I2 : ny_I), (if nt_ty T b (nt_nx T b p) = 14 then nt_cd T b 3 (nt_nx T b (nt_nx T b p)) a else (nt_nx T b p, some a)) = (q, some a1) → nt_oF I2 I → nt_M I2 T b → nt_mt I2 T b q → I2 102 10 = nI 0 → ny_Md I2 a1 → ny_g (d + 17) m_Md_ruleHere 80 [(0, .ref 102), (1, .int (nI (66 + 4 * a 5))), (2, .int (nI (nt_ty T b p))), (3, .int (nI (a 7)))] [] Ln I2 (ny_r0 Ln Q0) := by
      intro q a1 I2 hX F2 M2 t2 w2 D2
      obtain ⟨g1, g2, ⟨D, g3⟩, g4⟩ := nt_cnd_ok hX hp hpT
      have e5 : a1 5 = a 5 := g3.2.1 5 (by decide) (by omega)
      have h0 := fun q2 e => h0 q2 ((nt_bn_s hX _).trans e)
      have h1 := fun q2 a2 e => h1 q2 a2 ((nt_bn_s hX _).trans e)
      refine s_Md_ruleHere_80 (q_Md_doHere M2 hV t2 (fun k1 k2 => ?_) fun k => ?_)
      · have e0 : nI (nt_ty T b q - 6) < 0 ↔ nt_ty T b q - 6 < 0 := ny_lt (b := 0) (by omega) (by decide)
        rw [e0]
        refine ⟨fun z => absurd z (by omega), fun _ => s_Md_ruleHere_97 (q_Md_needs M2 hV t2 w2 (by decide) (fun hc => ?_) fun _ _ I3 F3 t3 e3 => ?_)⟩
        · exfalso
          rcases hc with y | y
          · exact absurd y (by decide)
          · exact absurd y (by decide)
        have M3 := nt_M_n F3 M2
        refine q_Md_isByte (c := 59) M3 hV t3 (by decide) (q_Md_needs M3 hV t3 e3 (by decide) (fun hc I4 F4 t4 e4 => ⟨fun _ => ?_, fun c => ?_⟩) fun _ hc I4 F4 t4 e4 => ⟨fun c => absurd e4 c, fun _ => ?_⟩)
        · have n59 : ¬ nt_ty T b (nt_nx T b q) = 59 := by
            intro y
            rw [if_pos y] at hc
            rcases hc with y | y
            · exact absurd y (by decide)
            · exact absurd y (by decide)
          exact h0 _ ((if_pos ⟨k1, k2⟩).trans (if_neg n59)) I4 (nt_oF_t (nt_oF_n (nt_nF_t F4 F3)) F2) (nt_M_n F4 M3) t4 e4
        · rw [e4] at c; exact absurd c nt_n1
        · have n59 : nt_ty T b (nt_nx T b q) = 59 := by
            refine Classical.byContradiction fun y => hc ?_
            rw [if_neg y]; rfl
          have D4 := nt_Md_n (nt_nF_t F4 F3) D2
          have q1 : nI (66 + 4 * a 5) + 1 = nI (67 + 4 * a 5) := by rw [nI_1, show 66 + 4 * a 5 + 1 = 67 + 4 * a 5 by omega]
          have q2 : nI (66 + 4 * a 5) + 2 = nI (68 + 4 * a 5) := by rw [show nI (66 + 4 * a 5) + 2 = nI (66 + 4 * a 5 + 2) from nI_add _ 2, show 66 + 4 * a 5 + 2 = 68 + 4 * a 5 by omega]
          have q3 : nI (66 + 4 * a 5) + 3 = nI (69 + 4 * a 5) := by rw [show nI (66 + 4 * a 5) + 3 = nI (66 + 4 * a 5 + 3) from nI_add _ 3, show 66 + 4 * a 5 + 3 = 69 + 4 * a 5 by omega]
          have l0 : (nI (66 + 4 * a 5)).toNatClampNeg = 66 + 4 * a 5 := nI_clamp (by omega)
          have l1 : (nI (67 + 4 * a 5)).toNatClampNeg = 67 + 4 * a 5 := nI_clamp (by omega)
          have l2 : (nI (68 + 4 * a 5)).toNatClampNeg = 68 + 4 * a 5 := nI_clamp (by omega)
          have l3 : (nI (69 + 4 * a 5)).toNatClampNeg = 69 + 4 * a 5 := nI_clamp (by omega)
          have u7 : ∀ x y z, ny_up (ny_up (ny_up I4 103 (66 + 4 * a 5) x) 103 (67 + 4 * a 5) y) 103 (68 + 4 * a 5) z 103 7 = nI (a1 7) := fun x y z => by
            rw [ny_uprd, if_neg (by omega), ny_uprd, if_neg (by omega), ny_uprd, if_neg (by omega)]; exact D4 7
          have u5 : ∀ x y z w, ny_up (ny_up (ny_up (ny_up I4 103 (66 + 4 * a 5) x) 103 (67 + 4 * a 5) y) 103 (68 + 4 * a 5) z) 103 (69 + 4 * a 5) w 103 5 = nI (a 5) := fun x y z w => by
            rw [ny_uprd, if_neg (by omega), ny_uprd, if_neg (by omega), ny_uprd, if_neg (by omega), ny_uprd, if_neg (by omega), ← e5]; exact D4 5
          rw [q1, q2, q3, l0, l1, l2, l3, c7, c5, u7, u5, nI_1]
          refine ⟨ny_inN (by omega) (by decide), ny_inN (by omega) (by decide), ny_inN (by omega) (by decide), by decide, ny_inN (by omega) (by decide), by decide, by decide, ?_⟩
          have G : ∀ c, c ≠ 103 → ny_up (ny_up (ny_up (ny_up (ny_up I4 103 (66 + 4 * a 5) (nI (nt_ty T b p))) 103 (67 + 4 * a 5) (nI (nt_ty T b q - 6))) 103 (68 + 4 * a 5) (nI (a 7))) 103 (69 + 4 * a 5) (nI (a1 7))) 103 5 (nI (a 5 + 1)) c = I4 c := fun c hc => by
            rw [ny_upne _ hc, ny_upne _ hc, ny_upne _ hc, ny_upne _ hc, ny_upne _ hc]
          have GF : nt_sF (ny_up (ny_up (ny_up (ny_up (ny_up I4 103 (66 + 4 * a 5) (nI (nt_ty T b p))) 103 (67 + 4 * a 5) (nI (nt_ty T b q - 6))) 103 (68 + 4 * a 5) (nI (a 7))) 103 (69 + 4 * a 5) (nI (a1 7))) 103 5 (nI (a 5 + 1))) I4 := ⟨G, fun j hj => by
            rw [ny_uprd, if_neg (by omega), ny_uprd, if_neg (by omega), ny_uprd, if_neg (by omega), ny_uprd, if_neg (by omega), ny_uprd, if_neg (by omega)]⟩
          refine h1 _ _ ((if_pos ⟨k1, k2⟩).trans (if_pos n59)) _ (nt_oF_t (nt_oF_r (nt_rF_3 GF)) (nt_oF_t (nt_oF_n (nt_nF_t F4 F3)) F2)) (nt_M_r (nt_rF_3 GF) (nt_M_n F4 M3)) (nt_mt_F ⟨by rw [G 102 (by decide)], by rw [G 102 (by decide)], by rw [G 102 (by decide)], by rw [G 102 (by decide)]⟩ t4) (by rw [G 102 (by decide)]; exact e4) fun j => ?_
          unfold nt_ra
          rw [ny_uprd, ny_uprd, ny_uprd, ny_uprd, ny_uprd, e5]
          by_cases j5 : j = 5
          · rw [if_pos ⟨rfl, j5⟩, if_pos j5]
          · rw [if_neg (fun y => j5 y.2), if_neg j5]
            by_cases j9 : j = 69 + 4 * a 5
            · rw [if_pos ⟨rfl, j9⟩, if_neg (by omega), if_neg (by omega), if_neg (by omega), if_pos j9]
            · rw [if_neg (fun y => j9 y.2)]
              by_cases j8 : j = 68 + 4 * a 5
              · rw [if_pos ⟨rfl, j8⟩, if_neg (by omega), if_neg (by omega), if_pos j8]
              · rw [if_neg (fun y => j8 y.2)]
                by_cases j7 : j = 67 + 4 * a 5
                · rw [if_pos ⟨rfl, j7⟩, if_neg (by omega), if_pos j7]
                · rw [if_neg (fun y => j7 y.2)]
                  by_cases j6 : j = 66 + 4 * a 5
                  · rw [if_pos ⟨rfl, j6⟩, if_pos j6]
                  · rw [if_neg (fun y => j6 y.2), if_neg j6, if_neg j7, if_neg j8, if_neg j9]; exact D4 j
      · refine ⟨fun _ => s_Md_ruleHere_97 (q_Md_needs M2 hV t2 w2 (by decide) (fun _ I3 F3 t3 e3 => ?_) fun _ z => absurd rfl z), fun z => absurd (by decide) z⟩
        have M3 := nt_M_n F3 M2
        refine q_Md_isByte (c := 59) M3 hV t3 (by decide) (q_Md_needs M3 hV t3 e3 (by decide) (fun _ I4 F4 t4 e4 => ⟨fun _ => ?_, fun c => ?_⟩) fun z => absurd z (by decide))
        · exact h0 q (if_neg k) I4 (nt_oF_t (nt_oF_n (nt_nF_t F4 F3)) F2) (nt_M_n F4 M3) t4 e4
        · rw [e4] at c; exact absurd c nt_n1
    refine ⟨by decide, fun c => absurd e1 c, fun _ => ?_⟩
    refine nt_q2 (k := 14) M1 hV t1 (by decide) (by decide) (by decide) (by decide) (fun n => ⟨fun _ => ?_, fun z => absurd rfl z⟩) fun e => ⟨fun z => absurd z (by decide), fun _ => ?_⟩
    · exact e80 _ a I1 (if_neg n) (nt_oF_n F1) M1 t1 e1 D1
    · refine q_Md_nextToken M1 hV ((nt_en_p (T := T) (b := b) (p := nt_nx T b p)).2.1 t1.1) t1.2.2.1 fun I2 F2 t2 => ?_
      have M2 := nt_M_F F2 M1
      have D2 := nt_Md_n (nt_nF_m F2) D1
      have l1 := nt_nx_ge (T := T) (b := b) (p := p)
      have l2 := nt_nx_ge (T := T) (b := b) (p := nt_nx T b p)
      have Fu : nt_oF (ny_up I2 102 11 0) I := nt_oF_t (nt_oF_u _ _) (nt_oF_n (nt_nF_t (nt_nF_m F2) F1))
      have w2 : I2 102 10 = nI 0 := by rw [F2.2 10 (by decide) (by decide) (by decide) (by decide)]; exact e1
      have := q_Md_cond (Ln := Ln) hV 3 (by decide) d
      refine this (ny_up I2 102 11 0) _ _ a (nt_M_11 M2) (nt_mt_11 t2) (by rw [ny_uprd, if_neg (by omega)]; exact w2) (fun j => by rw [ny_upne _ (by decide)]; exact D2 j) (by show 2 * a 7 ≤ nt_nx T b (nt_nx T b p); omega) (by rw [ny_uprd, if_pos ⟨rfl, rfl⟩]; rfl) (fun q e3 I4 F4 M4 t4 w4 => ?_) fun q a4 e3 I4 F4 M4 t4 w4 D4 => ?_
      · exact q_Md_r80W M4 hV t4 w4 fun I5 F5 t5 e5 => h0 q (nt_bn_n ((if_pos e).trans e3) _) I5 (nt_oF_t (nt_oF_n F5) (nt_oF_t (nt_oF_r F4) Fu)) (nt_M_n F5 M4) t5 e5
      · exact e80 q a4 I4 ((if_pos e).trans e3) (nt_oF_t (nt_oF_r F4) Fu) M4 t4 w4 D4
  · exact ⟨fun _ => w38 _ (by omega), fun z => absurd (by decide) z⟩
theorem q_Md_rl (hV : nt_V T b) : ∀ f p a (I1 : ny_I), nt_oF I1 I → nt_M I1 T b → nt_mt I1 T b p → I1 102 10 = nI 0 → ny_Md I1 a → nt_I a p T → f + a 5 = 8 → (∀ q, nt_rl T b f p a = (q, none) → ∀ I', nt_oF I' I → I' 102 7 = nI q → I' 102 10 = nI 1 → ny_g (d + 18) m_Md_rules 84 [(0, .ref 102), (1, .int 0)] [] Ln (ny_up I' 102 5 0) (ny_r1 Ln Q)) → (∀ q a', nt_rl T b f p a = (q, some a') → ∀ I', nt_oF I' I → I' 102 10 = nI 0 → ny_Md I' a' → ny_g (d + 18) m_Md_rules 84 [(0, .ref 102), (1, .int 0)] [] Ln (ny_up I' 102 5 0) (ny_r1 Ln Q)) → ny_g (d + 18) m_Md_rules 56 [(0, .ref 102)] [] Ln I1 (ny_r1 Ln Q) := by
  have hT := hV.1
  have wr : ∀ (I1 : ny_I), I1 102 10 = nI 1 → ny_g (d + 18) m_Md_rules 84 [(0, .ref 102), (1, .int 0)] [] Ln (ny_up I1 102 5 0) (ny_r1 Ln Q) → ny_g (d + 18) m_Md_rules 56 [(0, .ref 102)] [] Ln I1 (ny_r1 Ln Q) := by
    intro I1 e k
    refine s_Md_rules_56 ⟨fun _ => k, fun c => ?_⟩
    rw [e] at c; exact absurd c nt_n1
  have tk : ∀ (I1 : ny_I) (p : Nat), nt_mt I1 T b p → (I1 102 6 = 0 ↔ nt_ty T b p = 19) := by
    intro I1 p t
    obtain ⟨k0, k00, k1, k2, k3⟩ := nt_ki_p T b p
    rw [t.2.2.2.1]
    have : nI (nt_ki T b p) = 0 ↔ nt_ki T b p = 0 := ny_eq (b := 0) (by omega) (by decide)
    rw [this, k00]
    constructor
    · intro z; unfold nt_ty; rw [if_neg z]
    · intro z q
      have hx := nt_ixf_le nt_wds 0 (nt_wd T b p) (by decide)
      have hm := nt_ix_m (nt_wd T b p)
      unfold nt_ty at z
      rw [if_pos q] at z
      split at z
      · rcases hm with y | y
        · omega
        · have := (nt_ix_w _ y).1; omega
      · split at z
        · split at z <;> omega
        · unfold nt_sg at z
          split at z <;> omega
  intro f
  induction f with
  | zero =>
    intro p a I1 F1 M1 t1 w1 D1 hI h5 H0 H1
    refine s_Md_rules_56 ⟨fun c => absurd w1 c, fun _ => ?_⟩
    rw [tk I1 p t1]
    refine ⟨fun z => H1 p a (if_pos z) I1 F1 w1 D1, fun z => ?_⟩
    refine q_Md_ruleHere hV M1 t1 w1 D1 hI (fun q e I2 F2 M2 t2 e2 => ?_) fun q a' e => ?_
    · have eq : q = p := by
        unfold nt_ru at e
        rw [if_neg (by omega)] at e
        injection e with e _; exact e.symm
      subst eq
      exact wr I2 e2 (H0 q (if_neg z) I2 (nt_oF_t F2 F1) t2.2.1 e2)
    · unfold nt_ru at e
      rw [if_neg (by omega)] at e
      injection e with _ e; injection e
  | succ f ih =>
    intro p a I1 F1 M1 t1 w1 D1 hI h5 H0 H1
    refine s_Md_rules_56 ⟨fun c => absurd w1 c, fun _ => ?_⟩
    rw [tk I1 p t1]
    refine ⟨fun z => H1 p a (if_pos z) I1 F1 w1 D1, fun z => ?_⟩
    have er : nt_rl T b (f + 1) p a = nt_bn (nt_ru T b p a) (nt_rl T b f) := if_neg z
    refine q_Md_ruleHere hV M1 t1 w1 D1 hI (fun q e I2 F2 M2 t2 e2 => ?_) fun q a' e I2 F2 M2 t2 e2 D2 => ?_
    · exact wr I2 e2 (H0 q (er.trans (nt_bn_n e _)) I2 (nt_oF_t F2 F1) t2.2.1 e2)
    · obtain ⟨g1, g2, g3, g4⟩ := nt_ru_I hT hI e
      have er2 := er.trans (nt_bn_s e _)
      rw [er2] at H0 H1
      exact ih q a' I2 (nt_oF_t F2 F1) M2 t2 e2 D2 g1 (by omega) H0 H1
/-- what the reading of rules leaves of the model -/
def nt_qF (I' I : ny_I) : Prop := (∀ c, c ≠ 102 → c ≠ 103 → c ≠ 107 → I' c = I c) ∧ ∀ j, j < 5 → I' 102 j = I 102 j
theorem q_Md_rules (hM : nt_M I T b) (hV : nt_V T b) (hD : ny_Md I a) (hVa : ny_V a) (h : ∀ I', nt_qF I' I → ny_Md I' (o_rules T b a).2 → nt_M I' 0 b → Q (o_rules T b a).1 I') : ny_C1 (d + 18) m_Md_rules [.ref 102] Ln I Q := by
  have hT := hV.1
  refine s_Md_rules_0 ?_
  have cp : ∀ m k (I1 : ny_I), k + m = 572 → (∀ c, c ≠ 107 → I1 c = I c) → (∀ j, j < k → I1 107 j = nI (a j)) → (∀ I2 : ny_I, (∀ c, c ≠ 107 → I2 c = I c) → (∀ j, j < 572 → I2 107 j = nI (a j)) → ny_C0 (d + 17) m_Md_nextToken [.ref 102] Ln (ny_up (ny_up (ny_up (ny_up I2 103 5 0) 103 7 0) 102 8 0) 102 10 0) (fun I1 => ny_g (d + 18) m_Md_rules 56 [(0, .ref 102)] [] Ln I1 (ny_r1 Ln Q))) → ny_g (d + 18) m_Md_rules 2 [(0, .ref 102), (1, .int (nI k))] [] Ln I1 (ny_r1 Ln Q) := by
    intro m
    induction m with
    | zero =>
      intro k I1 hk h1 h2 H
      refine s_Md_rules_2 ⟨fun _ => ⟨by decide, by decide, H I1 h1 fun j hj => h2 j (by omega)⟩, fun c => ?_⟩
      have : (572 : Int32) ≤ nI k := (ny_le (a := 572) (by decide) (by omega)).mpr (by omega)
      exact absurd this c
    | succ m ih =>
      intro k I1 hk h1 h2 H
      have e : (572 : Int32) ≤ nI k ↔ 572 ≤ k := ny_le (a := 572) (by decide) (by omega)
      refine s_Md_rules_2 ?_
      rw [e, nI_clamp (by omega), nI_1]
      refine ⟨fun c => absurd c (by omega), fun _ => ⟨ny_inN (by omega) (by decide), ny_inN (by omega) (by decide), ih (k + 1) _ (by omega) (fun c hc => ?_) (fun j hj => ?_) H⟩⟩
      · rw [ny_upne _ hc]; exact h1 c hc
      · rw [ny_uprd]
        by_cases ej : j = k
        · rw [if_pos ⟨rfl, ej⟩, h1 103 (by decide), ej]; exact hD k
        · rw [if_neg (fun q => ej q.2)]; exact h2 j (by omega)
  refine cp 572 0 I (by omega) (fun _ _ => rfl) (fun j hj => absurd hj (by omega)) fun I2 h2 h7 => ?_
  have D2 : ny_Md (ny_up (ny_up (ny_up (ny_up I2 103 5 0) 103 7 0) 102 8 0) 102 10 0) (nt_az a) := by
    intro j
    rw [ny_upne _ (by decide), ny_upne _ (by decide), ny_uprd, ny_uprd]
    by_cases j7 : j = 7
    · rw [if_pos ⟨rfl, j7⟩, j7]; rfl
    · rw [if_neg (fun q => j7 q.2)]
      by_cases j5 : j = 5
      · rw [if_pos ⟨rfl, j5⟩, j5]; rfl
      · rw [if_neg (fun q => j5 q.2), nt_az_o j5 j7, h2 103 (by decide)]; exact hD j
  have u102 : ∀ j, j ≠ 8 → j ≠ 10 → ny_up (ny_up (ny_up (ny_up I2 103 5 0) 103 7 0) 102 8 0) 102 10 0 102 j = I 102 j := fun j x y => by
    rw [ny_uprd, if_neg (by omega), ny_uprd, if_neg (by omega), ny_upne _ (by decide), ny_upne _ (by decide), h2 102 (by decide)]
  have uc : ∀ c, c ≠ 102 → c ≠ 103 → ny_up (ny_up (ny_up (ny_up I2 103 5 0) 103 7 0) 102 8 0) 102 10 0 c = I2 c := fun c x y => by
    rw [ny_upne _ x, ny_upne _ x, ny_upne _ y, ny_upne _ y]
  have M2 : nt_M (ny_up (ny_up (ny_up (ny_up I2 103 5 0) 103 7 0) 102 8 0) 102 10 0) T b := ⟨by rw [u102 5 (by decide) (by decide)]; exact hM.1, fun j hj => by rw [uc 106 (by decide) (by decide), h2 106 (by decide)]; exact hM.2 j hj⟩
  have e8 : ny_up (ny_up (ny_up (ny_up I2 103 5 0) 103 7 0) 102 8 0) 102 10 0 102 8 = nI 0 := by rw [ny_uprd, if_neg (by omega), ny_uprd, if_pos ⟨rfl, rfl⟩]; rfl
  have e10 : ny_up (ny_up (ny_up (ny_up I2 103 5 0) 103 7 0) 102 8 0) 102 10 0 102 10 = nI 0 := by rw [ny_uprd, if_pos ⟨rfl, rfl⟩]; rfl
  have u3 : ∀ j, 572 ≤ j → ny_up (ny_up (ny_up (ny_up I2 103 5 0) 103 7 0) 102 8 0) 102 10 0 103 j = nI (a j) := fun j hj => by
    rw [ny_upne _ (by decide), ny_upne _ (by decide), ny_uprd, if_neg (by omega), ny_uprd, if_neg (by omega), h2 103 (by decide)]; exact hD j
  refine q_Md_nextToken M2 hV (by omega) e8 fun I3 F3 t3 => ?_
  have hsk := (nt_sk_p (T := T) (b := b) 0).2.1 (by omega)
  have ho := o_rules_V (b := b) (a := a) hT hVa
  unfold o_rules at h ho
  refine q_Md_rl (I := ny_up (ny_up (ny_up (ny_up I2 103 5 0) 103 7 0) 102 8 0) 102 10 0) hV 8 (nt_sk T b 0) (nt_az a) I3 (nt_oF_n (nt_nF_m F3)) (nt_M_F F3 M2) t3 (by rw [F3.2 10 (by decide) (by decide) (by decide) (by decide)]; exact e10) (nt_Md_n (nt_nF_m F3) D2) (nt_az_I hVa hsk) rfl (fun q e I4 F4 f4 w4 => ?_) fun q a' e I4 F4 w4 D4 => ?_
  · rw [e] at h
    have back : ∀ m k (I1 : ny_I), k + m = 572 → (∀ c, c ≠ 103 → I1 c = ny_up I4 102 5 0 c) → (∀ j, j < k → I1 103 j = nI (a j)) → (∀ j, 572 ≤ j → I1 103 j = nI (a j)) → ny_g (d + 18) m_Md_rules 84 [(0, .ref 102), (1, .int (nI k))] [] Ln I1 (ny_r1 Ln Q) := by
      intro m
      have g10 : ∀ I1 : ny_I, (∀ c, c ≠ 103 → I1 c = ny_up I4 102 5 0 c) → I1 102 10 = nI 1 ∧ I1 102 7 = nI q := fun I1 h1 => by
        rw [h1 102 (by decide), ny_uprd, if_neg (by omega), ny_uprd, if_neg (by omega)]; exact ⟨w4, f4⟩
      induction m with
      | zero =>
        intro k I1 hk h1 h3 h4
        have : (572 : Int32) ≤ nI k := (ny_le (a := 572) (by decide) (by omega)).mpr (by omega)
        refine s_Md_rules_84 ⟨fun _ => ⟨fun c => ?_, fun _ => ?_⟩, fun c => absurd this c⟩
        · rw [(g10 I1 h1).1] at c; exact absurd c nt_n1
        · rw [(g10 I1 h1).2]
          refine h I1 ⟨fun c x y z => ?_, fun j hj => ?_⟩ (fun j => ?_) ⟨?_, fun j hj => absurd hj (by omega)⟩
          · rw [h1 c y, ny_upne _ x, F4.1.1 c x y, uc c x y, h2 c z]
          · rw [h1 102 (by decide), ny_uprd, if_neg (by omega), F4.2 j (by omega) (by omega) (by omega) (by omega) (by omega) (by omega), u102 j (by omega) (by omega)]
          · rcases Nat.lt_or_ge j 572 with z | z
            · exact h3 j (by omega)
            · exact h4 j z
          · rw [h1 102 (by decide), ny_uprd, if_pos ⟨rfl, rfl⟩]; rfl
      | succ m ih =>
        intro k I1 hk h1 h3 h4
        have e5 : (572 : Int32) ≤ nI k ↔ 572 ≤ k := ny_le (a := 572) (by decide) (by omega)
        have w : ¬ I1 102 10 = 0 := by rw [(g10 I1 h1).1]; decide
        refine s_Md_rules_84 ?_
        rw [e5, nI_clamp (by omega), nI_1]
        refine ⟨fun c => absurd c (by omega), fun _ => ⟨fun c => absurd c w, fun _ => ⟨ny_inN (by omega) (by decide), ny_inN (by omega) (by decide), ih (k + 1) _ (by omega) (fun c hc => ?_) (fun j hj => ?_) fun j hj => ?_⟩⟩⟩
        · rw [ny_upne _ hc]; exact h1 c hc
        · rw [ny_uprd]
          by_cases ej : j = k
          · rw [if_pos ⟨rfl, ej⟩, h1 107 (by decide), ny_upne _ (by decide), F4.1.1 107 (by decide) (by decide), uc 107 (by decide) (by decide), ej]
            exact h7 k (by omega)
          · rw [if_neg (fun q => ej q.2)]; exact h3 j (by omega)
        · rw [ny_uprd, if_neg (by omega)]; exact h4 j hj
    refine back 572 0 _ (by omega) (fun _ _ => rfl) (fun j hj => absurd hj (by omega)) fun j hj => ?_
    rw [ny_upne _ (by decide), F4.1.2 j hj]; exact u3 j hj
  · rw [e] at h
    have w5 : ny_up I4 102 5 0 102 10 = 0 := by rw [ny_uprd, if_neg (by omega)]; exact w4
    have D5 : ny_Md (ny_up I4 102 5 0) a' := fun j => by rw [ny_upne _ (by decide)]; exact D4 j
    have c5 : Int32.toNatClampNeg 5 = 5 := rfl
    refine s_Md_rules_84 ⟨fun c => absurd c (by decide), fun _ => ⟨fun _ => ⟨fun _ => ⟨by decide, ?_⟩, fun c => absurd w5 c⟩, fun c => absurd w5 c⟩⟩
    rw [c5, D5 5]
    refine h _ ⟨fun c x y z => ?_, fun j hj => ?_⟩ D5 ⟨?_, fun j hj => absurd hj (by omega)⟩
    · rw [ny_upne _ x, F4.1.1 c x y, uc c x y, h2 c z]
    · rw [ny_uprd, if_neg (by omega), F4.2 j (by omega) (by omega) (by omega) (by omega) (by omega) (by omega), u102 j (by omega) (by omega)]
    · rw [ny_uprd, if_pos ⟨rfl, rfl⟩]; rfl
end NZMR
