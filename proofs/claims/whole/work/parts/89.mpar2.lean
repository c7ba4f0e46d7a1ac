/-! the model: conditions -/
def nt_mD (T : Nat) (b : Nat → Nat) (d Ln : Nat) (m : ny_M) (o : Nat) (E : Nat → ny_a → nt_R) : Prop := ∀ (I : ny_I) (Q0 : ny_I → Prop) (p : Nat) (a : ny_a), nt_M I T b → nt_mt I T b p → I 102 10 = nI 0 → ny_Md I a → 2 * a 7 ≤ p → I 102 11 = nI o → nt_h0 T b I Q0 (E p a) → nt_h1 T b I Q0 (E p a) → ny_C0 d m [.ref 102] Ln I Q0
section NZMQ
variable {d Ln : Nat} {I : ny_I} {Q : Int32 → ny_I → Prop} {Q0 : ny_I → Prop} {T : Nat} {b : Nat → Nat} {p : Nat} {a : ny_a}
theorem nt_n1 : ¬ nI 1 = (0 : Int32) := by decide
theorem q_Md_oneW (hw : I 102 10 = nI 1) (h : Q0 I) : ny_C0 (d + 1) m_Md_oneHere [.ref 102] Ln I Q0 := by
  refine s_Md_oneHere_0 (s_Md_oneHere_2 ?_)
  rw [hw]
  refine ⟨fun _ => s_Md_oneHere_35 ?_, fun c => absurd c nt_n1⟩
  rw [hw]
  refine ⟨fun _ => s_Md_oneHere_105 ?_, fun c => absurd c nt_n1⟩
  rw [hw]
  refine ⟨fun _ => s_Md_oneHere_116 ⟨fun _ => h, fun c => absurd c (by decide)⟩, fun c => absurd c nt_n1⟩
theorem q_Md_allW (hw : I 102 10 = nI 1) (h : Q0 I) : ny_C0 (d + 2) m_Md_allHere [.ref 102] Ln I Q0 := by
  refine s_Md_allHere_0 (q_Md_oneW hw (s_Md_allHere_4 ?_))
  rw [hw]
  exact ⟨fun _ => h, fun c => absurd c nt_n1⟩
theorem q_Md_condW (hw : I 102 10 = nI 1) (h : Q0 I) : ny_C0 (d + 3) m_Md_condHere [.ref 102] Ln I Q0 := by
  refine s_Md_condHere_0 (q_Md_allW hw (s_Md_condHere_4 ?_))
  rw [hw]
  exact ⟨fun _ => h, fun c => absurd c nt_n1⟩
theorem nt_mt_11 {x : Int32} (ht : nt_mt I T b p) : nt_mt (ny_up I 102 11 x) T b p := nt_mt_F ⟨by rw [ny_uprd, if_neg (by omega)], by rw [ny_uprd, if_neg (by omega)], by rw [ny_uprd, if_neg (by omega)], by rw [ny_uprd, if_neg (by omega)]⟩ ht
theorem nt_M_11 {x : Int32} (ht : nt_M I T b) : nt_M (ny_up I 102 11 x) T b := ⟨by rw [ny_uprd, if_neg (by omega)]; exact ht.1, fun j hj => by rw [ny_upne _ (by decide)]; exact ht.2 j hj⟩
/-- as nt_rF, but for what is open -/
def nt_oF (I' I : ny_I) : Prop := ((∀ c, c ≠ 102 → c ≠ 103 → I' c = I c) ∧ ∀ j, 572 ≤ j → I' 103 j = I 103 j) ∧ ∀ j, j ≠ 6 → j ≠ 7 → j ≠ 8 → j ≠ 9 → j ≠ 10 → j ≠ 11 → I' 102 j = I 102 j
theorem nt_oF_t {I1 I2 I3 : ny_I} (h : nt_oF I1 I2) (h2 : nt_oF I2 I3) : nt_oF I1 I3 := ⟨⟨fun c x y => (h.1.1 c x y).trans (h2.1.1 c x y), fun j x => (h.1.2 j x).trans (h2.1.2 j x)⟩, fun j x y z w u s => (h.2 j x y z w u s).trans (h2.2 j x y z w u s)⟩
theorem nt_oF_r {I1 I2 : ny_I} (h : nt_rF I1 I2) : nt_oF I1 I2 := ⟨h.1, fun j x y z w u _ => h.2 j x y z w u⟩
theorem nt_oF_u (I : ny_I) (x : Int32) : nt_oF (ny_up I 102 11 x) I := ⟨⟨fun c hc _ => ny_upne _ hc _ _, fun j _ => by rw [ny_upne _ (by decide)]⟩, fun j _ _ _ _ _ h => by rw [ny_uprd, if_neg (by omega)]⟩
theorem nt_rF_o {I1 I2 : ny_I} (h : nt_oF I1 I2) (h2 : I1 102 11 = I2 102 11) : nt_rF I1 I2 := ⟨h.1, fun j x y z w u => by
  by_cases e : j = 11
  · rw [e]; exact h2
  · exact h.2 j x y z w u e⟩
theorem q_Md_oneHere {o : Bool} {x : Nat} {C : Nat → ny_a → nt_R} {M : Nat} (hx : x < 4) (ho : o = true ↔ x < 3) (hV : nt_V T b) (hM1 : 1 ≤ M) (hO : ∀ p a, nt_ok T p a (C p a) M) (hC : o = true → nt_mD T b (d + 4) Ln m_Md_condHere (x + 1) C) : nt_mD T b (d + 5) Ln m_Md_oneHere x (nt_on T b o C) := by
  intro I Q0 p a hM ht hw hD h7 h11 h0 h1
  have hT := hV.1
  have hpT := ht.1
  refine s_Md_oneHere_0 ?_
  have e35 : ∀ p1 (t : Bool) (n : Nat) (I1 : ny_I), nt_nt T b 200 p false = (p1, t) → (t = true ↔ n % 2 = 1) → n ≤ 200 → nt_nF I1 I → nt_mt I1 T b p1 → I1 102 10 = nI 0 → ny_g (d + 5) m_Md_oneHere 35 [(0, .ref 102), (1, .int (nI n))] [] Ln I1 (ny_r0 Ln Q0) := by
    intro p1 t n I1 hN hn hn2 F1 t1 w1
    have M1 := nt_M_n F1 hM
    have hp1 := (nt_nt_p (T := T) (b := b) 200 p false).1
    rw [hN] at hp1
    have hp1 : p ≤ p1 := hp1
    have D1 := nt_Md_n F1 hD
    have hok := nt_on_ok (b := b) (o := o) hO hM1 (p := p) (a := a)
    have eq : nt_on T b o C p a = nt_bn (if o = true ∧ nt_ty T b p1 = 40 then nt_bn (C (nt_nx T b p1) a) (fun q a' => if nt_ty T b q = 41 then (nt_nx T b q, some a') else (q, none)) else nt_cm T b p1 a) fun q a' => (q, some (if t = true then nt_sa a' 3 0 0 else a')) := by
      unfold nt_on; rw [hN]
    have par : nI n - nI n / 2 * 2 = 1 ↔ t = true := by
      have : nI n - nI n / 2 * 2 = nI (n % 2) := ny_rem (d := 2) (by omega) (by decide) (by decide)
      rw [this, hn]
      exact ny_eq (b := 1) (by omega) (by decide)
    have f0 : ∀ q I2, (if o = true ∧ nt_ty T b p1 = 40 then nt_bn (C (nt_nx T b p1) a) (fun q a' => if nt_ty T b q = 41 then (nt_nx T b q, some a') else (q, none)) else nt_cm T b p1 a) = (q, none) → nt_rF I2 I → nt_M I2 T b → nt_mt I2 T b q → I2 102 10 = nI 1 → ny_g (d + 5) m_Md_oneHere 116 [(0, .ref 102), (1, .int (nI n))] [] Ln I2 (ny_r0 Ln Q0) := by
      intro q I2 hX F M2 t2 e2
      have := h0 q (by rw [eq, nt_bn_n hX]) I2 F M2 t2 e2
      exact s_Md_oneHere_116 ⟨fun _ => this, fun _ => q_Md_stepsW e2 this⟩
    have f1 : ∀ q a2 I2, (if o = true ∧ nt_ty T b p1 = 40 then nt_bn (C (nt_nx T b p1) a) (fun q a' => if nt_ty T b q = 41 then (nt_nx T b q, some a') else (q, none)) else nt_cm T b p1 a) = (q, some a2) → nt_rF I2 I → nt_M I2 T b → nt_mt I2 T b q → I2 102 10 = nI 0 → ny_Md I2 a2 → ny_g (d + 5) m_Md_oneHere 116 [(0, .ref 102), (1, .int (nI n))] [] Ln I2 (ny_r0 Ln Q0) := by
      intro q a2 I2 hX F M2 t2 e2 D2
      have e2' := eq.trans (nt_bn_s hX _)
      have hk := hok _ _ e2' hpT
      refine s_Md_oneHere_116 ?_
      rw [par]
      refine ⟨fun z => ?_, fun z => ?_⟩
      · rw [if_neg z] at e2'
        exact h1 q a2 e2' I2 F M2 t2 e2 D2
      · rw [if_pos z] at e2' hk
        have h7' : nt_sa a2 3 0 0 7 = a2 7 + 1 := nt_sa_7
        have hk4 := hk.2.2.2
        refine q_Md_steps (s := 3) (v := 0) (w := 0) e2 D2 (by omega) fun I3 F3 D3 => ?_
        exact h1 q _ e2' I3 (nt_rF_t (nt_rF_3 F3) F) (nt_M_r (nt_rF_3 F3) M2) (nt_mt_F ⟨by rw [F3.1 102 (by decide)], by rw [F3.1 102 (by decide)], by rw [F3.1 102 (by decide)], by rw [F3.1 102 (by decide)]⟩ t2) (by rw [F3.1 102 (by decide)]; exact e2) D3
    have cmp : (if o = true ∧ nt_ty T b p1 = 40 then nt_bn (C (nt_nx T b p1) a) (fun q a' => if nt_ty T b q = 41 then (nt_nx T b q, some a') else (q, none)) else nt_cm T b p1 a) = nt_cm T b p1 a → ny_g (d + 5) m_Md_oneHere 105 [(0, .ref 102), (1, .int (nI n))] [] Ln I1 (ny_r0 Ln Q0) := by
      intro hX
      refine s_Md_oneHere_105 ⟨fun c => absurd w1 c, fun _ => q_Md_comparesHere M1 hV t1 w1 D1 (by omega) (fun q e I2 F M2 t2 e2 => ?_) fun q a2 e I2 F M2 t2 e2 D2 => ?_⟩
      · exact f0 q I2 (hX.trans e) (nt_rF_t F (nt_rF_n F1)) M2 t2 e2
      · exact f1 q a2 I2 (hX.trans e) (nt_rF_t F (nt_rF_n F1)) M2 t2 e2 D2
    have o1 : I1 102 11 = nI x := by rw [F1.2 11 (by decide) (by decide) (by decide) (by decide) (by decide)]; exact h11
    refine s_Md_oneHere_35 ⟨fun c => absurd w1 c, fun _ => q_Md_isByte (c := 40) M1 hV t1 (by decide) ?_⟩
    by_cases c40 : nt_ty T b p1 = 40
    · rw [if_pos c40]
      refine ⟨fun q => absurd q (by decide), fun _ => ?_⟩
      have e3 : (3 : Int32) ≤ nI x ↔ 3 ≤ x := ny_le (a := 3) (by decide) (by omega)
      rw [o1, e3]
      refine ⟨fun hx3 => ?_, fun hx3 => ?_⟩
      · have hX : (if o = true ∧ nt_ty T b p1 = 40 then nt_bn (C (nt_nx T b p1) a) (fun q a' => if nt_ty T b q = 41 then (nt_nx T b q, some a') else (q, none)) else nt_cm T b p1 a) = (p1, none) := by
          rw [if_neg (fun q => by have := ho.mp q.1; omega)]
          unfold nt_cm nt_vl
          rw [if_neg (by omega), if_neg (by omega)]
        refine s_Md_oneHere_65 (q_Md_needs M1 hV t1 w1 (by decide) (fun _ I2 F2 t2 e2 => ?_) fun _ hc => absurd rfl hc)
        have M2 := nt_M_n F2 M1
        have e2' : ny_up I2 102 11 (I2 102 11 + 1) 102 10 = nI 1 := by rw [ny_uprd, if_neg (by omega)]; exact e2
        refine q_Md_condW e2' (q_Md_isByte (c := 41) (nt_M_11 M2) hV (nt_mt_11 t2) (by decide) ?_)
        refine q_Md_needs (nt_M_11 M2) hV (nt_mt_11 t2) e2' (by decide) (fun _ I3 F3 t3 e3 => ?_) fun z => absurd z (by decide)
        have o2 : I2 102 11 = nI x := by rw [F2.2 11 (by decide) (by decide) (by decide) (by decide) (by decide)]; exact o1
        have o3 : I3 102 11 = nI (x + 1) := by rw [F3.2 11 (by decide) (by decide) (by decide) (by decide) (by decide), ny_uprd, if_pos ⟨rfl, rfl⟩, o2, nI_1]
        have o4 : I3 102 11 - 1 = nI x := by rw [o3]; exact pk_sub (b := 1) (by omega)
        rw [o4]
        have FF : nt_oF (ny_up I3 102 11 (nI x)) I := nt_oF_t (nt_oF_u _ _) (nt_oF_t (nt_oF_r (nt_rF_n F3)) (nt_oF_t (nt_oF_u _ _) (nt_oF_r (nt_rF_n (nt_nF_t F2 F1)))))
        exact f0 p1 _ hX (nt_rF_o FF (by rw [ny_uprd, if_pos ⟨rfl, rfl⟩]; exact h11.symm)) (nt_M_11 (nt_M_n F3 (nt_M_11 M2))) (nt_mt_11 t3) (by rw [ny_uprd, if_neg (by omega)]; exact e3)
      · have ho1 : o = true := ho.mpr (by omega)
        have hX : (if o = true ∧ nt_ty T b p1 = 40 then nt_bn (C (nt_nx T b p1) a) (fun q a' => if nt_ty T b q = 41 then (nt_nx T b q, some a') else (q, none)) else nt_cm T b p1 a) = nt_bn (C (nt_nx T b p1) a) (fun q a' => if nt_ty T b q = 41 then (nt_nx T b q, some a') else (q, none)) := if_pos ⟨ho1, c40⟩
        refine s_Md_oneHere_65 (q_Md_needs M1 hV t1 w1 (by decide) (fun hc => ?_) fun _ _ I2 F2 t2 e2 => ?_)
        · exfalso
          rcases hc with z | z
          · exact absurd z (by decide)
          · exact absurd z (by decide)
        have M2 := nt_M_n F2 M1
        have D2 := nt_Md_n F2 D1
        have o2 : I2 102 11 = nI x := by rw [F2.2 11 (by decide) (by decide) (by decide) (by decide) (by decide)]; exact o1
        have o2' : I2 102 11 + 1 = nI (x + 1) := by rw [o2, nI_1]
        rw [o2']
        have hge := nt_nx_ge (T := T) (b := b) (p := p1)
        have Fu : nt_oF (ny_up I2 102 11 (nI (x + 1))) I := nt_oF_t (nt_oF_u _ _) (nt_oF_r (nt_rF_n (nt_nF_t F2 F1)))
        have fin : ∀ (I3 I5 : ny_I), nt_rF I3 (ny_up I2 102 11 (nI (x + 1))) → nt_nF I5 I3 → I5 102 11 - 1 = nI x ∧ nt_rF (ny_up I5 102 11 (nI x)) I := by
          intro I3 I5 F3 F5
          have o5 : I5 102 11 = nI (x + 1) := by
            rw [F5.2 11 (by decide) (by decide) (by decide) (by decide) (by decide), F3.2 11 (by decide) (by decide) (by decide) (by decide) (by decide), ny_uprd, if_pos ⟨rfl, rfl⟩]
          refine ⟨by rw [o5]; exact pk_sub (b := 1) (by omega), nt_rF_o (nt_oF_t (nt_oF_u _ _) (nt_oF_t (nt_oF_r (nt_rF_n F5)) (nt_oF_t (nt_oF_r F3) Fu))) ?_⟩
          rw [ny_uprd, if_pos ⟨rfl, rfl⟩]; exact h11.symm
        refine hC ho1 (ny_up I2 102 11 (nI (x + 1))) _ (nt_nx T b p1) a (nt_M_11 M2) (nt_mt_11 t2) (by rw [ny_uprd, if_neg (by omega)]; exact e2) (fun j => by rw [ny_upne _ (by decide)]; exact D2 j) (by omega) (by rw [ny_uprd, if_pos ⟨rfl, rfl⟩]) (fun q e3 I3 F3 M3 t3 w3 => ?_) fun q a3 e3 I3 F3 M3 t3 w3 D3 => ?_
        · refine q_Md_isByte (c := 41) M3 hV t3 (by decide) (q_Md_needs M3 hV t3 w3 (by decide) (fun _ I5 F5 t5 e5 => ?_) fun z => absurd z (by decide))
          obtain ⟨g1, g2⟩ := fin I3 I5 F3 F5
          rw [g1]
          exact f0 q _ (hX.trans (nt_bn_n e3 _)) g2 (nt_M_11 (nt_M_n F5 M3)) (nt_mt_11 t5) (by rw [ny_uprd, if_neg (by omega)]; exact e5)
        · refine q_Md_isByte (c := 41) M3 hV t3 (by decide) (q_Md_needs M3 hV t3 w3 (by decide) (fun hc I5 F5 t5 e5 => ?_) fun _ hc I5 F5 t5 e5 => ?_)
          · obtain ⟨g1, g2⟩ := fin I3 I5 F3 F5
            rw [g1]
            have n41 : ¬ nt_ty T b q = 41 := by
              intro z
              rw [if_pos z] at hc
              rcases hc with y | y
              · exact absurd y (by decide)
              · exact absurd y (by decide)
            exact f0 q _ ((hX.trans (nt_bn_s e3 _)).trans (if_neg n41)) g2 (nt_M_11 (nt_M_n F5 M3)) (nt_mt_11 t5) (by rw [ny_uprd, if_neg (by omega)]; exact e5)
          · obtain ⟨g1, g2⟩ := fin I3 I5 F3 F5
            rw [g1]
            have n41 : nt_ty T b q = 41 := by
              refine Classical.byContradiction fun z => hc ?_
              rw [if_neg z]; rfl
            exact f1 (nt_nx T b q) a3 _ ((hX.trans (nt_bn_s e3 _)).trans (if_pos n41)) g2 (nt_M_11 (nt_M_n F5 M3)) (nt_mt_11 t5) (by rw [ny_uprd, if_neg (by omega)]; exact e5) (fun j => by rw [ny_upne _ (by decide)]; exact nt_Md_n F5 D3 j)
    · rw [if_neg c40]
      exact ⟨fun _ => cmp (if_neg fun q => c40 q.2), fun q => absurd rfl q⟩
  have key : ∀ f p1 (t : Bool) (I1 : ny_I), f ≤ 200 → p + 2 * (200 - f) ≤ p1 → nt_nt T b 200 p false = nt_nt T b f p1 t → (t = true ↔ (200 - f) % 2 = 1) → nt_nF I1 I → nt_mt I1 T b p1 → I1 102 10 = nI 0 → ny_g (d + 5) m_Md_oneHere 2 [(0, .ref 102), (1, .int (nI (200 - f)))] [] Ln I1 (ny_r0 Ln Q0) := by
    intro f
    induction f with
    | zero =>
      intro p1 t I1 hf hl hN hn F1 t1 w1
      have := t1.1
      omega
    | succ f ih =>
      intro p1 t I1 hf hl hN hn F1 t1 w1
      have M1 := nt_M_n F1 hM
      have hN : nt_nt T b 200 p false = if nt_ty T b p1 = 17 then nt_nt T b f (nt_nx T b p1) (!t) else (p1, t) := hN
      refine s_Md_oneHere_2 ⟨fun c => absurd w1 c, fun _ => nt_q3 (k := 17) M1 hV t1 (by decide) (by decide) (by decide) (by decide) (fun n => ?_) fun e => ?_⟩
      · rw [if_neg n] at hN
        exact ⟨fun _ => e35 p1 t _ I1 hN hn (by omega) F1 t1 w1, fun q => absurd rfl q⟩
      · rw [if_pos e] at hN
        refine ⟨fun q => absurd q (by decide), fun _ => ?_⟩
        have en : nI (200 - (f + 1)) + 1 = nI (200 - f) := by rw [nI_1, show 200 - (f + 1) + 1 = 200 - f by omega]
        have h2 := nt_ty_w (T := T) (b := b) (p := p1) (by omega)
        rw [en]
        refine q_Md_nextToken M1 hV ((nt_en_p (T := T) (b := b) (p := p1)).2.1 t1.1) t1.2.2.1 fun I2 F2 t2 => ?_
        refine ih (nt_nx T b p1) (!t) I2 (by omega) (by omega) hN ?_ (nt_nF_t (nt_nF_m F2) F1) t2 (by rw [F2.2 10 (by decide) (by decide) (by decide) (by decide)]; exact w1)
        cases t with
        | false =>
          have : ¬ (200 - (f + 1)) % 2 = 1 := fun q => absurd (hn.mpr q) (by decide)
          exact ⟨fun _ => by omega, fun _ => rfl⟩
        | true =>
          have := hn.mp rfl
          exact ⟨fun q => absurd q (by decide), fun q => by omega⟩
  exact key 200 p false I (Nat.le_refl _) (by omega) rfl ⟨fun q => absurd q (by decide), fun q => absurd q (by decide)⟩ (nt_nF_r I) ht hw
theorem q_Md_allHere {x : Nat} {E : Nat → ny_a → nt_R} {M : Nat} (hV : nt_V T b) (hO : ∀ p a, nt_ok T p a (E p a) M) (hE : nt_mD T b (d + 5) Ln m_Md_oneHere x E) : nt_mD T b (d + 6) Ln m_Md_allHere x (fun p a => nt_bn (E p a) (nt_lo T b E 15 4 200)) := by
  intro I Q0 p a hM ht hw hD h7 h11 h0 h1
  have hT := hV.1
  have hpT := ht.1
  have e4 : ∀ (I1 : ny_I), I1 102 10 = nI 1 → Q0 I1 → ny_g (d + 6) m_Md_allHere 4 [(0, .ref 102)] [] Ln I1 (ny_r0 Ln Q0) := fun I1 e k => by
    refine s_Md_allHere_4 ⟨fun _ => k, fun c => ?_⟩
    rw [e] at c; exact absurd c nt_n1
  have key : ∀ f p1 a1 (I1 : ny_I), f ≤ 200 → p + 2 * (200 - f) ≤ p1 → nt_h0 T b I Q0 (nt_lo T b E 15 4 f p1 a1) → nt_h1 T b I Q0 (nt_lo T b E 15 4 f p1 a1) → nt_rF I1 I → nt_M I1 T b → nt_mt I1 T b p1 → I1 102 10 = nI 0 → ny_Md I1 a1 → 2 * a1 7 ≤ p1 → ny_g (d + 6) m_Md_allHere 4 [(0, .ref 102)] [] Ln I1 (ny_r0 Ln Q0) := by
    intro f
    induction f with
    | zero =>
      intro p1 a1 I1 hf hl H0 H1 F1 M1 t1 w1 D1 g7
      have := t1.1
      omega
    | succ f ih =>
      intro p1 a1 I1 hf hl H0 H1 F1 M1 t1 w1 D1 g7
      refine s_Md_allHere_4 ⟨fun c => absurd w1 c, fun _ => nt_q3 (k := 15) M1 hV t1 (by decide) (by decide) (by decide) (by decide) (fun n => ⟨fun _ => H1 p1 a1 (if_neg n) I1 F1 M1 t1 w1 D1, fun q => absurd rfl q⟩) fun e => ⟨fun q => absurd q (by decide), fun _ => ?_⟩⟩
      have h2 := nt_ty_w (T := T) (b := b) (p := p1) (by omega)
      have hp1 := t1.1
      refine q_Md_nextToken M1 hV ((nt_en_p (T := T) (b := b) (p := p1)).2.1 t1.1) t1.2.2.1 fun I2 F2 t2 => ?_
      have G2 : nt_rF I2 I := nt_rF_t (nt_rF_n (nt_nF_m F2)) F1
      refine hE I2 _ (nt_nx T b p1) a1 (nt_M_F F2 M1) t2 (by rw [F2.2 10 (by decide) (by decide) (by decide) (by decide)]; exact w1) (nt_Md_n (nt_nF_m F2) D1) (by omega) (by rw [G2.2 11 (by decide) (by decide) (by decide) (by decide) (by decide)]; exact h11) (fun q e3 I3 F3 M3 t3 w3 => ?_) fun q a3 e3 I3 F3 M3 t3 w3 D3 => ?_
      · exact q_Md_stepsW w3 (e4 I3 w3 (H0 q ((if_pos e).trans (nt_bn_n e3 _)) I3 (nt_rF_t F3 G2) M3 t3 w3))
      · have hk := hO _ _ _ _ e3 (nt_nx_le hp1)
        have er : nt_lo T b E 15 4 (f + 1) p1 a1 = nt_lo T b E 15 4 f q (nt_sa a3 4 0 0) := (if_pos e).trans (nt_bn_s e3 _)
        rw [er] at H0 H1
        refine q_Md_steps (s := 4) (v := 0) (w := 0) w3 D3 (by omega) fun I4 F4 D4 => ?_
        exact ih q _ I4 (by omega) (by omega) H0 H1 (nt_rF_t (nt_rF_3 F4) (nt_rF_t F3 G2)) (nt_M_r (nt_rF_3 F4) M3) (nt_mt_F ⟨by rw [F4.1 102 (by decide)], by rw [F4.1 102 (by decide)], by rw [F4.1 102 (by decide)], by rw [F4.1 102 (by decide)]⟩ t3) (by rw [F4.1 102 (by decide)]; exact w3) D4 (by rw [nt_sa_7]; omega)
  refine s_Md_allHere_0 (hE I _ p a hM ht hw hD h7 h11 (fun q e3 I3 F3 M3 t3 w3 => ?_) fun q a3 e3 I3 F3 M3 t3 w3 D3 => ?_)
  · exact e4 I3 w3 (h0 q (nt_bn_n e3 _) I3 F3 M3 t3 w3)
  · have hk := hO _ _ _ _ e3 hpT
    have er : nt_bn (E p a) (nt_lo T b E 15 4 200) = nt_lo T b E 15 4 200 q a3 := nt_bn_s e3 _
    dsimp only at h0 h1
    rw [er] at h0 h1
    exact key 200 q a3 I3 (Nat.le_refl _) (by omega) h0 h1 F3 M3 t3 w3 D3 (by omega)
theorem q_Md_condHere {x : Nat} {E : Nat → ny_a → nt_R} {M : Nat} (hV : nt_V T b) (hO : ∀ p a, nt_ok T p a (E p a) M) (hE : nt_mD T b (d + 6) Ln m_Md_allHere x E) : nt_mD T b (d + 7) Ln m_Md_condHere x (fun p a => nt_bn (E p a) (nt_lo T b E 16 5 200)) := by
  intro I Q0 p a hM ht hw hD h7 h11 h0 h1
  have hT := hV.1
  have hpT := ht.1
  have e4 : ∀ (I1 : ny_I), I1 102 10 = nI 1 → Q0 I1 → ny_g (d + 7) m_Md_condHere 4 [(0, .ref 102)] [] Ln I1 (ny_r0 Ln Q0) := fun I1 e k => by
    refine s_Md_condHere_4 ⟨fun _ => k, fun c => ?_⟩
    rw [e] at c; exact absurd c nt_n1
  have key : ∀ f p1 a1 (I1 : ny_I), f ≤ 200 → p + 2 * (200 - f) ≤ p1 → nt_h0 T b I Q0 (nt_lo T b E 16 5 f p1 a1) → nt_h1 T b I Q0 (nt_lo T b E 16 5 f p1 a1) → nt_rF I1 I → nt_M I1 T b → nt_mt I1 T b p1 → I1 102 10 = nI 0 → ny_Md I1 a1 → 2 * a1 7 ≤ p1 → ny_g (d + 7) m_Md_condHere 4 [(0, .ref 102)] [] Ln I1 (ny_r0 Ln Q0) := by
    intro f
    induction f with
    | zero =>
      intro p1 a1 I1 hf hl H0 H1 F1 M1 t1 w1 D1 g7
      have := t1.1
      omega
    | succ f ih =>
      intro p1 a1 I1 hf hl H0 H1 F1 M1 t1 w1 D1 g7
      refine s_Md_condHere_4 ⟨fun c => absurd w1 c, fun _ => nt_q2 (k := 16) M1 hV t1 (by decide) (by decide) (by decide) (by decide) (fun n => ⟨fun _ => H1 p1 a1 (if_neg n) I1 F1 M1 t1 w1 D1, fun q => absurd rfl q⟩) fun e => ⟨fun q => absurd q (by decide), fun _ => ?_⟩⟩
      have h2 := nt_ty_w (T := T) (b := b) (p := p1) (by omega)
      have hp1 := t1.1
      refine q_Md_nextToken M1 hV ((nt_en_p (T := T) (b := b) (p := p1)).2.1 t1.1) t1.2.2.1 fun I2 F2 t2 => ?_
      have G2 : nt_rF I2 I := nt_rF_t (nt_rF_n (nt_nF_m F2)) F1
      refine hE I2 _ (nt_nx T b p1) a1 (nt_M_F F2 M1) t2 (by rw [F2.2 10 (by decide) (by decide) (by decide) (by decide)]; exact w1) (nt_Md_n (nt_nF_m F2) D1) (by omega) (by rw [G2.2 11 (by decide) (by decide) (by decide) (by decide) (by decide)]; exact h11) (fun q e3 I3 F3 M3 t3 w3 => ?_) fun q a3 e3 I3 F3 M3 t3 w3 D3 => ?_
      · exact q_Md_stepsW w3 (e4 I3 w3 (H0 q ((if_pos e).trans (nt_bn_n e3 _)) I3 (nt_rF_t F3 G2) M3 t3 w3))
      · have hk := hO _ _ _ _ e3 (nt_nx_le hp1)
        have er : nt_lo T b E 16 5 (f + 1) p1 a1 = nt_lo T b E 16 5 f q (nt_sa a3 5 0 0) := (if_pos e).trans (nt_bn_s e3 _)
        rw [er] at H0 H1
        refine q_Md_steps (s := 5) (v := 0) (w := 0) w3 D3 (by omega) fun I4 F4 D4 => ?_
        exact ih q _ I4 (by omega) (by omega) H0 H1 (nt_rF_t (nt_rF_3 F4) (nt_rF_t F3 G2)) (nt_M_r (nt_rF_3 F4) M3) (nt_mt_F ⟨by rw [F4.1 102 (by decide)], by rw [F4.1 102 (by decide)], by rw [F4.1 102 (by decide)], by rw [F4.1 102 (by decide)]⟩ t3) (by rw [F4.1 102 (by decide)]; exact w3) D4 (by rw [nt_sa_7]; omega)
  refine s_Md_condHere_0 (hE I _ p a hM ht hw hD h7 h11 (fun q e3 I3 F3 M3 t3 w3 => ?_) fun q a3 e3 I3 F3 M3 t3 w3 D3 => ?_)
  · exact e4 I3 w3 (h0 q (nt_bn_n e3 _) I3 F3 M3 t3 w3)
  · have hk := hO _ _ _ _ e3 hpT
    have er : nt_bn (E p a) (nt_lo T b E 16 5 200) = nt_lo T b E 16 5 200 q a3 := nt_bn_s e3 _
    dsimp only at h0 h1
    rw [er] at h0 h1
    exact key 200 q a3 I3 (Nat.le_refl _) (by omega) h0 h1 F3 M3 t3 w3 D3 (by omega)
theorem q_Md_cond (hV : nt_V T b) : ∀ L, L < 4 → ∀ d, nt_mD T b (d + 3 * L + 7) Ln m_Md_condHere (3 - L) (nt_cd T b L) := by
  have gen : ∀ (o : Bool) (C : Nat → ny_a → nt_R) (x M d : Nat), x < 4 → (o = true ↔ x < 3) → 1 ≤ M → (∀ p a, nt_ok T p a (C p a) M) → (o = true → nt_mD T b (d + 4) Ln m_Md_condHere (x + 1) C) → nt_mD T b (d + 7) Ln m_Md_condHere x (nt_cn T b o C) := by
    intro o C x M d hx ho hM hO hC
    have r1 := q_Md_oneHere hx ho hV hM hO hC
    have r2 := q_Md_allHere hV (M := M) (fun p a => nt_on_ok hO hM) r1
    exact q_Md_condHere hV (M := M + 1) (fun p a => nt_al_ok hO hM) r2
  intro L
  induction L with
  | zero =>
    intro _ d
    refine gen false _ 3 1 d (by decide) (by decide) (by decide) (fun p a q a' h => ?_) (fun q => absurd q (by decide))
    injection h with _ h; injection h
  | succ L ih =>
    intro hL d
    have := ih (by omega) d
    refine gen true (nt_cd T b L) (3 - (L + 1)) (3 + 2 * L) (d + 3 * L + 3) (by omega) (by simp; omega) (by omega) (nt_cd_ok L) fun _ => ?_
    rw [show 3 - (L + 1) + 1 = 3 - L by omega]
    exact this
end NZMQ
