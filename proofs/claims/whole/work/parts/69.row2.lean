/-! both: prove -/
theorem nz_pl_F (wn N : Nat) : ∀ f {a : ny_a} {k w told : Nat} {acts : Nat → Nat} {s : nz_ps}, ny_V a → a 0 = N → a 1 + f ≤ a 2 → (∀ j, j < k → acts j ≤ N) → (s.2.1 ≠ 0 → ∀ j, j < k + f → s.2.2.1 j ≤ N) → ∀ j, j < k + f → (nz_pl wn f a k w told acts s).2.2.1 j ≤ N := by
  intro f
  induction f with
  | zero =>
    intro a k w told acts s hV hN hb hA hs j hj
    show (if s.2.1 = 0 ∨ s.1 < w then acts else s.2.2.1) j ≤ N
    by_cases c : s.2.1 = 0 ∨ s.1 < w
    · rw [if_pos c]; exact hA j hj
    · rw [if_neg c]; exact hs (fun q => c (Or.inl q)) j hj
  | succ f ih =>
    intro a k w told acts s hV hN hb hA hs
    rw [nz_pl]
    have key : ∀ n o (s : nz_ps), o + n = a 0 + 1 → (s.2.1 ≠ 0 → ∀ j, j < k + (f + 1) → s.2.2.1 j ≤ N) → (0 < n ∨ s.2.1 ≠ 0) → ∀ j, j < k + (f + 1) → (nz_lp (fun act s => nz_pl wn f (ny_goa a act) (k + 1) (w + ny_gow a act) (if act = 0 then told else told + 1) (fun j => if j = k then act else acts j) s) o n s).2.2.1 j ≤ N := by
      intro n
      induction n with
      | zero =>
        intro o s ho h1 h2
        rw [nz_lp]
        exact h1 (h2.resolve_left (Nat.lt_irrefl 0))
      | succ n ihn =>
        intro o s ho h1 h2
        have g := nz_go hV (act := o) (by omega) (by omega)
        have g2 := nz_Sm0 g.2.2.1
        rw [nz_lp]
        have one := nz_pl_1 wn f (ny_goa a o) (k + 1) (w + ny_gow a o) (if o = 0 then told else told + 1) (fun j => if j = k then o else acts j) s
        refine ihn (o + 1) _ (by omega) (fun _ j hj => ih (k := k + 1) g.2.1 (by omega) (by omega) (fun i hi => ?_) (fun q i hi => h1 q i (by omega)) j (by omega)) (Or.inr (by omega))
        by_cases e : i = k
        · rw [if_pos e]; omega
        · rw [if_neg e]; exact hA i (by omega)
    exact key (a 0 + 1) 0 s (by omega) hs (Or.inl (by omega))
theorem nz_pln_F {a : ny_a} {n wn : Nat} (hV : ny_V a) : ∀ j, j < min n (a 2 - a 1) → (nz_pln a n wn).2.2.1 j ≤ a 0 := by
  intro j hj
  have v := hV.1
  exact nz_pl_F wn (a 0) (min n (a 2 - a 1)) (k := 0) hV rfl (by omega) (fun j h => absurd h (by omega)) (fun q => absurd rfl q) j (by omega)
/-- behind so many of the acts -/
def nz_pst (F : Nat → Nat) : Nat → ny_a → ny_a
  | 0, a => a
  | k + 1, a => ny_goa (nz_pst F k a) (F k)
theorem nz_pst_b {F : Nat → Nat} {a : ny_a} {L : Nat} (hV : ny_V a) (hF : ∀ j, j < L → F j ≤ a 0) (hL : a 1 + L ≤ a 2) : ∀ k, k ≤ L → ny_V (nz_pst F k a) ∧ nz_pst F k a 1 = a 1 + k ∧ ny_Sm (nz_pst F k a) a := by
  intro k
  induction k with
  | zero => intro _; exact ⟨hV, rfl, fun _ _ _ _ => rfl⟩
  | succ k ih =>
    intro hk
    obtain ⟨i1, i2, i3⟩ := ih (by omega)
    have s0 := nz_Sm0 i3
    have hf := hF k (by omega)
    have g := nz_go i1 (act := F k) (by omega) (by omega)
    exact ⟨g.2.1, by rw [nz_pst, g.2.2.2.1, i2]; omega, nz_Sm_tr g.2.2.1 i3⟩
def nz_rr (F : Nat → Nat) (a : ny_a) : nz_rw := fun k w => if w = 0 then nI (F k) else if w = 1 then nI (ny_gow (nz_pst F k a) (F k)) else nI (nz_msk (nz_L (nz_pst F (k + 1) a)))
def o_prove (x : Int32) (n : Nat) (r : nz_rw) (a : ny_a) : Int32 × Nat × nz_rw := match nz_in 0 4 x with
  | some m => (nI (min m (a 2 - a 1)), min m (a 2 - a 1), nz_rr (nz_pln a m 0).2.2.1 a)
  | none => (nI 4294967295, n, r)
section NZPV
variable {d Ln : Nat} {I : ny_I} {Q : Int32 → ny_I → Prop} {Q0 : ny_I → Prop} {a : ny_a}
theorem nz_Cl_q5 {I' : ny_I} (hC : ny_Cl I a) (hV : ny_V a) (e : ∀ q, q ≤ 27 → q ≠ 22 → q ≠ 5 → I' q = I q) (e2 : ∀ j, 5 ≤ j → I' 22 j = I 22 j) : ny_Cl I' a := by
  refine ⟨nz_Ba_q (fun q hq => e q (by omega) (by omega) (by omega)) e2 (fun _ _ _ _ => rfl) hV hC.1, nz_Mo_q (e 7 (by decide) (by decide) (by decide)) (e 8 (by decide) (by decide) (by decide)) hC.2.1, ?_, ?_⟩
  · rw [e 6 (by decide) (by decide) (by decide)]; exact hC.2.2.1
  · unfold ny_Re
    rw [e 23 (by decide) (by decide) (by decide), e 24 (by decide) (by decide) (by decide), e 25 (by decide) (by decide) (by decide), e 26 (by decide) (by decide) (by decide), e 27 (by decide) (by decide) (by decide)]
    exact hC.2.2.2
theorem q_Md_prove {x : Int32} {n : Nat} {r : nz_rw} (ha : ny_Md I a) (hV : ny_V a) (hR : ny_RM I n r) (h : ∀ I', ny_Md I' a → nz_mq0 I' I → ny_RM I' (o_prove x n r a).2.1 (o_prove x n r a).2.2 → Q (o_prove x n r a).1 I') : ny_C1 (d + 11) m_Md_prove [.ref 102, .int x] Ln I Q := by
  have v := hV.1
  refine s_Md_prove_0 (q_Md_isLong (d := d + 9) (fun m em hm ex => ⟨fun _ => ?_, fun q => absurd q (by decide)⟩) fun em => ⟨fun q => absurd rfl q, fun _ => ?_⟩)
  · subst ex
    simp only [o_prove, em] at h
    have hFa := nz_pln_F (n := m) (wn := 0) hV
    have b := nz_pln_b (wn := 0) hV hm
    refine q_Md_findsPlans (wn := 0) ha hV hm (by decide) fun I1 hF1 hM => ?_
    obtain ⟨m1, m2⟩ := hM.2.2.2.2.2 (by omega)
    generalize (nz_pln a m 0).2.2.1 = F at *
    have hP := nz_pst_b (L := min m (a 2 - a 1)) hV hFa (by omega)
    generalize hL : min m (a 2 - a 1) = L at *
    refine q_Md_laysAside hF1.1 (by decide) fun I2 ha2 hA2 => ?_
    have key : ∀ j k (I3 : ny_I), k + j = L → ny_Md I3 (nz_pst F k a) → (∀ c, c ≠ 103 → c ≠ 112 → I3 c = I2 c) → (∀ i, i < k → ∀ w, w < 3 → I3 112 (3 * i + w) = nz_rr F a i w) → ny_g (d + 11) m_Md_prove 22 [(0, .ref 102), (2, .int (nI k))] [] Ln I3 (ny_r1 Ln Q) := by
      intro j
      induction j with
      | zero =>
        intro k I3 hk hM3 hc hr
        obtain ⟨p1, p2, p3⟩ := hP k (by omega)
        have e17 : I3 102 17 = nI L := by rw [hc 102 (by decide) (by decide), hA2.1 102 (by decide) (by decide)]; exact m1
        refine s_Md_prove_22 ?_
        rw [e17]
        simp (disch := omega) only [ny_lit, nI_add, ny_mul, nI_clamp, ny_le, ny_lt, ny_eq, ny_div, ny_rem, ny_rem2, ny_inN]
        refine ⟨fun _ => q_Md_laysBack (I0 := I3) (a := a) hM3 (by decide) (nz_Sm0 p3).2.2 ⟨fun _ _ _ => rfl, fun i hi => by rw [hc 105 (by decide) (by decide)]; exact hA2.2.1 i hi, fun _ _ => rfl⟩ fun I4 hA4 h105 => ?_, fun q => absurd q (by omega)⟩
        have c4 : ∀ c, c ≠ 103 → c ≠ 105 → I4 c = I3 c := hA4.2.1
        rw [c4 102 (by decide) (by decide), e17]
        simp (disch := omega) only [ny_uprd, if_true, and_self]
        refine h _ (fun j => by rw [ny_upne _ (by decide)]; exact hA4.1 j) ⟨fun c hc2 => ?_, fun j hj => ?_⟩ ⟨?_, fun i hi w hw => ?_⟩
        · rw [ny_upne _ (by omega), c4 c (by omega) (by omega), hc c (by omega) (by omega), hA2.1 c (by omega) (by omega), hF1.2.1 c (by omega) (by omega) (by omega) (by omega) (by omega)]
        · simp (disch := omega) only [ny_uprd, if_neg]
          rw [c4 102 (by decide) (by decide), hc 102 (by decide) (by decide), hA2.1 102 (by decide) (by decide), hF1.2.2.1 j (by omega)]
        · simp (disch := omega) only [ny_uprd, if_true, and_self]
        · rw [ny_upne _ (by decide), c4 112 (by decide) (by decide)]
          exact hr i (by omega) w hw
      | succ j ih =>
        intro k I3 hk hM3 hc hr
        obtain ⟨p1, p2, p3⟩ := hP k (by omega)
        have s0 := nz_Sm0 p3
        have hf := hFa k (by omega)
        have e17 : I3 102 17 = nI L := by rw [hc 102 (by decide) (by decide), hA2.1 102 (by decide) (by decide)]; exact m1
        have e109 : I3 109 k = nI (F k) := by rw [hc 109 (by decide) (by decide), hA2.1 109 (by decide) (by decide)]; exact m2 k (by omega)
        have g := nz_go p1 (act := F k) (by omega) (by omega)
        refine s_Md_prove_22 ?_
        rw [e17]
        simp (disch := omega) only [ny_lit, nI_add, ny_mul, nI_clamp, ny_le, ny_lt, ny_eq, ny_div, ny_rem, ny_rem2, ny_inN, true_and]
        refine ⟨fun q => absurd q (by omega), fun _ => ?_⟩
        rw [show ny_up I3 112 (3 * k) (I3 109 k) 109 k = nI (F k) by rw [ny_upne _ (by decide)]; exact e109, e109]
        refine q_Md_goesWith (d := d + 6) (a := nz_pst F k a) (fun j => by rw [ny_upne _ (by decide)]; exact hM3 j) p1 (by omega) fun I4 h4 h4o => ?_
        refine q_Md_relievedOnes (d := d + 9) (a := nz_pst F (k + 1) a) (fun j => by rw [ny_upne _ (by decide)]; exact h4 j) g.2.1 ?_
        refine ih (k + 1) _ (by omega) (fun j => by rw [ny_upne _ (by decide), ny_upne _ (by decide)]; exact h4 j) (fun c x y => by rw [ny_upne _ y, ny_upne _ y, h4o c x, ny_upne _ y]; exact hc c x y) fun i hi w hw => ?_
        have e112 : ∀ q, I4 112 q = if q = 3 * k then nI (F k) else I3 112 q := fun q => by rw [h4o 112 (by decide), ny_upeq]; rfl
        rw [ny_uprd, ny_uprd, e112]
        by_cases ei : i = k
        · subst ei
          have hw3 : w = 0 ∨ w = 1 ∨ w = 2 := by omega
          rcases hw3 with rfl | rfl | rfl
          · rw [if_neg (by omega), if_neg (by omega), if_pos (by omega)]; rfl
          · rw [if_neg (by omega), if_pos (by omega)]; rfl
          · rw [if_pos (by omega)]; rfl
        · rw [if_neg (by omega), if_neg (by omega), if_neg (by omega)]
          exact hr i (by omega) w hw
    exact key L 0 I2 (by omega) ha2 (fun _ _ _ => rfl) (fun i hi => absurd hi (by omega))
  · simp only [o_prove, em] at h
    rw [ny_m1]; exact h I ha ⟨fun _ _ => rfl, fun _ _ => rfl⟩ hR
theorem q_No_prove {x : Int32} {n : Nat} {r : nz_rw} (hC : ny_Cl I a) (hV : ny_V a) (hR : ny_RC I n r) (h : ∀ I', ny_Cl I' a → nz_cq0 I' I → ny_RC I' (o_prove x n r a).2.1 (o_prove x n r a).2.2 → Q (o_prove x n r a).1 I') : ny_C1 (d + 11) m_No_prove [.ref 5, .int x] Ln I Q := by
  have v := hV.1
  refine s_No_prove_0 (q_No_I 0 4 rfl rfl (by decide) (by decide) (fun m em _ hm ex => ⟨fun _ => ?_, fun q => absurd q (by decide)⟩) fun em => ⟨fun q => absurd rfl q, fun _ => ?_⟩)
  · subst ex
    simp only [o_prove, em] at h
    have hFa := nz_pln_F (n := m) (wn := 0) hV
    have b := nz_pln_b (wn := 0) hV hm
    refine q_Pl_tryAll (wn := 0) hC hV hm (by decide) fun I1 hF1 hM => ?_
    have m1 := hM.2.1
    have m2 := hM.2.2.2.2.2.2 (by omega)
    generalize (nz_pln a m 0).2.2.1 = F at *
    have hP := nz_pst_b (L := min m (a 2 - a 1)) hV hFa (by omega)
    generalize hL : min m (a 2 - a 1) = L at *
    have hC1 := hF1.1
    refine q_Ba_copyOfNow (d := d + 9) hC1.2.1 hV fun I2 hF2 hM2 => ⟨rfl, ?_⟩
    have e67 : I2 67 3 = nI L := by rw [hF2.1 67 (by decide) (by decide) (by decide)]; exact m1
    rw [e67]
    have key : ∀ j k (I3 : ny_I), k + j = L → ny_Mo I3 28 (nz_pst F k a) → (∀ q, q ≠ 5 → q ≠ 22 → q ≠ 28 → q ≠ 29 → ¬ (82 ≤ q ∧ q ≤ 85) → I3 q = I2 q) → (∀ j, 5 ≤ j → I3 22 j = I2 22 j) → I3 5 6 = nI L → (∀ j, j ≠ 6 → I3 5 j = I2 5 j) → (∀ i, i < k → ∀ w, w < 3 → I3 (82 + i) w = nz_rr F a i w) → ny_g (d + 11) m_No_prove 45 [(0, .ref 5), (2, .ref 28), (3, .int (nI k))] [] Ln I3 (ny_r1 Ln Q) := by
      intro j
      induction j with
      | zero =>
        intro k I3 hk hM3 hc h22 e6 e5 hr
        refine s_No_prove_45 ?_
        rw [e6]
        simp (disch := omega) only [ny_lit, nI_add, ny_mul, nI_clamp, ny_le, ny_lt, ny_eq, ny_div, ny_rem, ny_rem2, ny_inN]
        refine ⟨fun _ => h I3 (nz_Cl_q5 hC1 hV (fun q x y q5 => ?_) fun j hj => ?_) ⟨fun q hq => ?_, fun j hj => ?_⟩ ⟨e6, fun i hi => hr i (by omega)⟩, fun q => absurd q (by omega)⟩
        · rw [hc q q5 y (by omega) (by omega) (by omega), hF2.1 q y (by omega) (by omega)]
        · rw [h22 j hj, hF2.2 j hj]
        · rw [hc q (by omega) (by omega) (by omega) (by omega) (by omega), hF2.1 q (by omega) (by omega) (by omega), hF1.2 q (by omega)]
        · rw [e5 j hj, hF2.1 5 (by decide) (by decide) (by decide), hF1.2 5 (by decide)]
      | succ j ih =>
        intro k I3 hk hM3 hc h22 e6 e5 hr
        obtain ⟨p1, p2, p3⟩ := hP k (by omega)
        have s0 := nz_Sm0 p3
        have hf := hFa k (by omega)
        have e70 : ∀ I' : ny_I, (∀ q, q = 70 → I' q = I3 q) → I' 70 k = nI (F k) := fun I' e => by rw [e 70 rfl, hc 70 (by decide) (by decide) (by decide) (by decide) (by decide), hF2.1 70 (by decide) (by decide) (by decide)]; exact m2 k (by omega)
        have g := nz_go p1 (act := F k) (by omega) (by omega)
        refine s_No_prove_45 ?_
        rw [e6]
        simp (disch := omega) only [ny_lit, nI_add, ny_mul, nI_clamp, ny_le, ny_lt, ny_eq, ny_div, ny_rem, ny_rem2, ny_inN, true_and]
        refine ⟨fun q => absurd q (by omega), fun _ => s_No_prove_a58 (by omega) ?_⟩
        simp (disch := omega) only [ny_lit, nI_add, ny_mul, nI_clamp, ny_le, ny_lt, ny_eq, ny_div, ny_rem, ny_rem2, ny_inN, true_and]
        rw [show 82 + 1 * k = 82 + k by omega]
        refine s_No_prove_a75 (by omega) ?_
        simp (disch := omega) only [ny_lit, nI_add, ny_mul, nI_clamp, ny_le, ny_lt, ny_eq, ny_div, ny_rem, ny_rem2, ny_inN, true_and]
        rw [show 82 + 1 * k = 82 + k by omega, e70 _ (fun q e => ny_upne _ (by omega) _ _)]
        have hB4 : ny_Ba (ny_up I3 (82 + k) 0 (I3 70 k)) (nz_pst F k a) := nz_Ba_q (fun q hq => by rw [ny_upne _ (by omega), hc q (by omega) (by omega) (by omega) (by omega) (by omega), hF2.1 q (by omega) (by omega) (by omega)]) (fun j hj => by rw [ny_upne _ (by omega), h22 j hj, hF2.2 j hj]) p3 hV hC1.1
        refine q_Ba_goBy (d := d + 7) nz_m28 hB4 (nz_Mo_q (ny_upne _ (by omega) _ _) (ny_upne _ (by omega) _ _) hM3) p1 (by omega) fun I4 hF4 hM4 => ?_
        refine s_No_prove_a100 (by omega) ⟨rfl, ?_⟩
        rw [nI_1, show Int32.toNatClampNeg 2 = 2 from rfl]
        obtain ⟨x1, x2, mm, x3, x4, x5⟩ := id hM4
        rw [show ny_up I4 (82 + k) 1 (nI (ny_gow (nz_pst F k a) (F k))) 28 1 = nI (nz_msk (nz_L (nz_pst F (k + 1) a))) by rw [ny_upne _ (by omega), x4, nz_msk_e (s := nz_L (ny_goa (nz_pst F k a) (F k))) ⟨x3, fun q hq => x5 q hq⟩]; rfl]
        have c4 : ∀ q, q ≠ 22 → q ≠ 28 → q ≠ 29 → q ≠ 82 + k → I4 q = I3 q := fun q y1 y2 y3 y4 => by rw [hF4.1 q y1 y2 (by omega), ny_upne _ y4]
        refine ih (k + 1) _ (by omega) (nz_Mo_q (by rw [ny_upne _ (by omega), ny_upne _ (by omega)]) (by rw [ny_upne _ (by omega), ny_upne _ (by omega)]) hM4) (fun q y1 y2 y3 y4 y5 => by rw [ny_upne _ (by omega), ny_upne _ (by omega), c4 q y2 y3 y4 (by omega)]; exact hc q y1 y2 y3 y4 y5) (fun j hj => by rw [ny_upne _ (by omega), ny_upne _ (by omega), hF4.2 j hj, ny_upne _ (by omega)]; exact h22 j hj) (by rw [ny_upne _ (by omega), ny_upne _ (by omega), c4 5 (by decide) (by decide) (by decide) (by omega)]; exact e6) (fun j hj => by rw [ny_upne _ (by omega), ny_upne _ (by omega), c4 5 (by decide) (by decide) (by decide) (by omega)]; exact e5 j hj) fun i hi w hw => ?_
        rw [ny_uprd, ny_uprd]
        by_cases ei : i = k
        · subst ei
          have hw3 : w = 0 ∨ w = 1 ∨ w = 2 := by omega
          rcases hw3 with rfl | rfl | rfl
          · rw [if_neg (by omega), if_neg (by omega), hF4.1 _ (by omega) (by omega) (by omega), ny_uprd, if_pos (by omega)]
            exact e70 I3 (fun _ _ => rfl)
          · rw [if_neg (by omega), if_pos (by omega)]; rfl
          · rw [if_pos (by omega)]; rfl
        · rw [if_neg (by omega), if_neg (by omega), c4 _ (by omega) (by omega) (by omega) (by omega)]
          exact hr i (by omega) w hw
    refine key L 0 _ (by omega) (nz_Mo_q (ny_upne _ (by decide) _ _) (ny_upne _ (by decide) _ _) hM2) (fun q x _ _ _ _ => ny_upne _ x _ _) (fun j _ => by rw [ny_upne _ (by decide)]) ?_ (fun j hj => ?_) (fun i hi => absurd hi (by omega))
    · simp (disch := omega) only [ny_uprd, if_true, and_self]
    · simp (disch := omega) only [ny_uprd, if_neg]
  · simp only [o_prove, em] at h
    rw [ny_m1]; exact h I hC ⟨fun _ _ => rfl, fun _ _ => rfl⟩ hR
end NZPV
