/-! both: what is taken; the class's shelves -/
def nz_ho (a : ny_a) (h : nz_hf) (t : Nat) : Nat := if h.1 t = 1 ∧ ¬ h.2.1 t < a 0 then 0 else h.1 t
section NZSG
variable {d Ln : Nat} {I : ny_I} {Q : Int32 → ny_I → Prop} {Q0 : ny_I → Prop} {a : ny_a} {s : nz_sh} {hf : nz_hf}
theorem q_Md_heldOn {t : Nat} (ha : ny_Md I a) (hV : ny_V a) (hH : ny_HM I hf) (hh : nz_HV hf) (ht : t < 4) (h : Q (nI (nz_ho a hf t)) I) : ny_C1 (d + 1) m_Md_heldOn [.ref 102, .int (nI t)] Ln I Q := by
  have v := hh t ht
  have m := hH t ht
  have it : ny_in (nI t) 4 = true := ny_inN ht (by decide)
  refine s_Md_heldOn_0 ?_
  rw [nI_clamp (by omega), m.1]
  unfold nz_ho at h
  simp (disch := omega) only [ny_lit, ny_eq]
  refine ⟨it, fun c => ⟨it, ?_⟩, fun c => ⟨it, ?_⟩⟩
  · rw [if_neg (fun q => c q.1)] at h; exact h
  · rw [m.2.1 (fun q => by rw [c] at q; exact absurd q (by decide))]
    have v5 := v.2.1 c
    refine q_Md_O ha hV (fun k ek hk ex => ⟨fun _ => ⟨it, ?_⟩, fun q => absurd q (by decide)⟩) (fun ek => ⟨fun q => absurd rfl q, fun _ => ?_⟩)
    · have := (ny_eq (by omega) (by have := hV.1.1; omega)).mp ex
      rw [if_neg (fun q => q.2 (by omega))] at h; rw [m.1]; exact h
    · have hn : ¬ hf.2.1 t < a 0 := by
        intro q
        rw [nz_fg_s hV.1.1 q rfl] at ek
        cases ek
      rw [if_pos ⟨c, hn⟩] at h
      exact h
theorem q_Md_taken {x y : Int32} (ha : ny_Md I a) (hV : ny_V a) (hH : ny_HM I hf) (hh : nz_HV hf) (h : Q (o_taken x y a hf) I) : ny_C1 (d + 2) m_Md_taken [.ref 102, .int x, .int y] Ln I Q := by
  have v0 := hV.1.1
  refine s_Md_taken_0 (q_Md_isShelf (fun t et ht ex => ⟨fun q => absurd q (by decide), fun _ => q_Md_I 0 14 rfl rfl (by decide) (by decide) (fun w ew _ hw ey => ⟨fun q => absurd q (by decide), fun _ => q_Md_I 6 9 rfl rfl (by decide) (by decide) (fun u eu hu1 hu eyu => ⟨fun q => absurd q (by decide), fun _ => ?_⟩) fun eu => ⟨fun _ => ?_, fun q => absurd rfl q⟩⟩) (fun ew => ⟨fun _ => ?_, fun q => absurd rfl q⟩)⟩) fun et => ⟨fun _ => ?_, fun q => absurd rfl q⟩)
  · have n5 : nz_in 0 5 y = none := nz_in_n (by decide) (by decide) fun m _ hm e => by
      rw [eyu] at e
      have := (ny_eq (by omega) (by omega)).mp e
      omega
    have n14 : nz_in 10 14 y = none := nz_in_n (by decide) (by decide) fun m hm1 hm e => by
      rw [eyu] at e
      have := (ny_eq (by omega) (by omega)).mp e
      omega
    simp only [o_taken, et, n5, n14] at h
    rw [ny_m1]; exact h
  · have hv := hh t (by omega)
    have hm := hH t (by omega)
    have it : ny_in x 4 = true := by rw [ex]; exact ny_inN (by omega) (by decide)
    have hk : ∀ k, k < a 0 → k < 6 := fun k hk => by omega
    subst ex
    refine q_Md_heldOn ha hV hH hh (by omega) ?_
    rw [nI_clamp (by omega)]
    have w9 : ¬ (6 ≤ w ∧ w ≤ 9) := fun q => by
      rw [nz_in_s (by decide) (by decide) q.1 q.2 ey] at eu
      cases eu
    have ho2 : nz_ho a hf t ≤ 2 := by unfold nz_ho; split <;> omega
    subst ey
    rcases Nat.lt_or_ge w 6 with c | c
    · have e5 : nz_in 0 5 (nI w) = some w := nz_in_s (by decide) (by decide) (by omega) (by omega) rfl
      simp only [o_taken, et, e5] at h
      rw [show ((10 : Int32) ≤ nI w) ↔ False from ⟨fun q => by rw [ny_lit, ny_le (by decide) (by omega)] at q; have q : 10 ≤ w := q; omega, fun q => q.elim⟩]
      have f1 : nI (nz_ho a hf t) = (1 : Int32) ↔ nz_ho a hf t = 1 := ny_eq (by omega) (by decide)
      have f0 : nI (nz_ho a hf t) = (0 : Int32) ↔ nz_ho a hf t = 0 := ny_eq (by omega) (by decide)
      rw [f1, f0]
      by_cases c1 : hf.1 t = 1 ∧ hf.2.1 t < a 0
      · rw [if_pos c1] at h
        have e1 : nz_ho a hf t = 1 := by unfold nz_ho; rw [if_neg (fun q => q.2 c1.2)]; exact c1.1
        have h17 : I 117 t = nI (hf.2.1 t) := hm.2.1 (by omega)
        have V2 := hV.2.1 (hf.2.1 t) (by omega)
        rw [e1, h17]
        refine ⟨fun _ => ⟨fun q => q.elim, fun _ => ⟨fun q => absurd rfl q, fun _ => ⟨it, q_Md_t0 ha (by omega) (q_Md_isUnder (by omega) (by omega) ?_)⟩⟩⟩, fun q => absurd q (by decide)⟩
        by_cases u : ny_und (a (8 + 5 * hf.2.1 t)) w = true
        · rw [if_pos u] at h ⊢
          exact ⟨fun q => absurd q (by decide), fun _ => ⟨it, by rw [h17]; exact h⟩⟩
        · rw [if_neg u] at h ⊢
          exact ⟨fun _ => by rw [ny_m13]; exact h, fun q => absurd rfl q⟩
      · rw [if_neg c1] at h
        by_cases c2 : hf.1 t = 2
        · rw [if_pos c2] at h
          have e1 : nz_ho a hf t = 2 := by unfold nz_ho; rw [if_neg (fun q => by omega)]; exact c2
          rw [e1]
          exact ⟨fun _ => ⟨fun q => q.elim, fun _ => ⟨fun _ => by rw [ny_m13]; exact h, fun q => absurd q (by decide)⟩⟩, fun q => absurd q (by decide)⟩
        · rw [if_neg c2] at h
          have e1 : nz_ho a hf t = 0 := by unfold nz_ho; split <;> omega
          rw [e1]
          exact ⟨fun q => absurd rfl q, fun _ => by rw [ny_m11]; exact h⟩
    · have e5 : nz_in 0 5 (nI w) = none := nz_in_n (by decide) (by decide) fun m _ hm e => by
        have := (ny_eq (by omega) (by omega)).mp e
        omega
      have e14 : nz_in 10 14 (nI w) = some w := nz_in_s (by decide) (by decide) (by omega) (by omega) rfl
      simp only [o_taken, et, e5, e14] at h
      rw [show ((10 : Int32) ≤ nI w) ↔ True from ⟨fun _ => trivial, fun _ => by rw [ny_lit, ny_le (by decide) (by omega)]; show 10 ≤ w; omega⟩]
      have f2 : nI (nz_ho a hf t) = (2 : Int32) ↔ nz_ho a hf t = 2 := ny_eq (by omega) (by decide)
      have f0 : nI (nz_ho a hf t) = (0 : Int32) ↔ nz_ho a hf t = 0 := ny_eq (by omega) (by decide)
      have w10 : nI w - (10 : Int32) = nI (w - 10) := pk_sub (show 10 ≤ w by omega)
      rw [f2, f0, w10]
      by_cases c2 : hf.1 t = 2
      · rw [if_pos c2] at h
        have e1 : nz_ho a hf t = 2 := by unfold nz_ho; rw [if_neg (fun q => by omega)]; exact c2
        have h17 : I 117 t = nI (hf.2.1 t) := hm.2.1 (by omega)
        have v2 := hv.2.2 c2
        rw [e1, h17, hm.2.2 c2, ny_eq (by omega) (by omega)]
        refine ⟨fun _ => ⟨fun _ => ⟨fun q => absurd rfl q, fun _ => ⟨it, fun c3 => ?_, fun c3 => ⟨it, ?_⟩⟩⟩, fun q => absurd trivial q⟩, fun q => absurd q (by decide)⟩
        · rw [if_neg c3] at h; rw [ny_m13]; exact h
        · rw [if_pos c3] at h; exact h
      · rw [if_neg c2] at h
        by_cases c1 : hf.1 t = 1 ∧ hf.2.1 t < a 0
        · rw [if_pos c1] at h
          have e1 : nz_ho a hf t = 1 := by unfold nz_ho; rw [if_neg (fun q => q.2 c1.2)]; exact c1.1
          rw [e1]
          exact ⟨fun _ => ⟨fun _ => ⟨fun _ => by rw [ny_m13]; exact h, fun q => absurd q (by decide)⟩, fun q => absurd trivial q⟩, fun q => absurd q (by decide)⟩
        · rw [if_neg c1] at h
          have e1 : nz_ho a hf t = 0 := by unfold nz_ho; split <;> omega
          rw [e1]
          exact ⟨fun q => absurd rfl q, fun _ => by rw [ny_m11]; exact h⟩
  · have n5 : nz_in 0 5 y = none := nz_in_n (by decide) (by decide) fun m _ hm e => by
      rw [nz_in_s (l := 0) (n := 14) (by decide) (by decide) (by omega) (by omega) e] at ew
      cases ew
    have n14 : nz_in 10 14 y = none := nz_in_n (by decide) (by decide) fun m hm1 hm e => by
      rw [nz_in_s (l := 0) (n := 14) (by decide) (by decide) (by omega) (by omega) e] at ew
      cases ew
    simp only [o_taken, et, n5, n14] at h
    rw [ny_m1]; exact h
  · simp only [o_taken, et] at h
    rw [ny_m1]; exact h
theorem q_Sf_holdRow {t : Nat} {x y : Int32} (ht : t < 4) (h : ∀ I', (∀ c, c ≠ 98 + t → I' c = I c) → I' (98 + t) 0 = nI 4294967293 → I' (98 + t) 1 = x → I' (98 + t) 2 = y → Q0 I') : ny_C0 d m_Sf_holdRow [.ref (98 + t), .int x, .int y] Ln I Q0 := by
  refine s_Sf_holdRow_0 (by omega) (h _ (fun c q => by rw [ny_upne _ q, ny_upne _ q, ny_upne _ q]) ?_ ?_ ?_)
  · simp (disch := omega) only [ny_uprd, if_neg, if_true, and_self]; exact ny_m3
  · simp (disch := omega) only [ny_uprd, if_neg, if_true, and_self]
  · simp (disch := omega) only [ny_uprd, if_true, and_self]
theorem q_No_shelf {x y z : Int32} (hC : ny_Cl I a) (hV : ny_V a) (hM : ny_SC I s) (hS : nz_SV s) (hH : ny_HC I hf) (h : ∀ I', (∀ c, c < 98 ∨ 101 < c → I' c = I c) → ny_HC I' (o_shelf x y z s a hf).2 → Q (o_shelf x y z s a hf).1 I') : ny_C1 (d + 3) m_No_shelf [.ref 5, .int x, .int y, .int z] Ln I Q := by
  have no : o_shelf x y z s a hf = (nI 4294967295, hf) → Q (-1) I := fun e => by
    rw [e] at h; rw [ny_m1]; exact h I (fun _ _ => rfl) hH
  refine s_No_shelf_0 (q_No_I 0 3 rfl rfl (by decide) (by decide) (fun t et _ ht ex => ⟨fun _ => ⟨?_, ?_⟩, fun q => absurd q (by decide)⟩) fun et => ⟨fun q => absurd rfl q, fun _ => no (by simp only [o_shelf, et])⟩)
  · rw [ex]; exact ny_inN (by omega) (by decide)
  · subst ex
    rw [nI_clamp (by omega), show 98 + 1 * t = 98 + t by omega]
    have iy : ∀ w, w ≤ 2 → y = nI w → nz_in 0 2 y = some w := fun w hw e => nz_in_s (by decide) (by decide) (by omega) hw e
    refine s_No_shelf_a16 (by omega) ⟨fun c => ?_, fun c => ?_, fun c => ?_, fun c0 c1 c2 => ?_⟩
    · have ew := iy 0 (by decide) c
      refine q_No_O hC.1 hV (fun k ek hk ez => ⟨fun _ => s_Sf_holdFigure_0 (by omega) (s_Sf_holdNothing_0 (by omega) (q_Sf_holdRow (by omega) fun I1 h1 h2 h3 h4 => ?_)), fun q => absurd q (by decide)⟩) fun ek => ⟨fun q => absurd rfl q, fun _ => no (by simp only [o_shelf, et, ew, ek]; rfl)⟩
      have e : o_shelf (nI t) y z s a hf = (nI 1, nz_hs hf t 1 k 0) := by simp only [o_shelf, et, ew, ek]; rfl
      rw [e] at h
      refine h _ (fun c q => by rw [ny_upne _ (by omega), h1 c (by omega)]) (nz_hs_C hH (fun q hq1 hq2 => by rw [ny_upne _ (by omega), h1 _ (by omega)]) ?_ ?_ fun q => absurd q (by decide))
      · simp (disch := omega) only [ny_uprd, if_true, and_self]; exact ez
      · simp (disch := omega) only [ny_uprd, if_neg]
        rw [h3]; exact ny_m1
    · have ew := iy 1 (by decide) c
      refine q_No_I 0 3 rfl rfl (by decide) (by decide) (fun q eq _ hq ez => ⟨fun _ => ⟨?_, ?_⟩, fun q => absurd q (by decide)⟩) fun eq => ⟨fun q => absurd rfl q, fun _ => no (by simp only [o_shelf, et, ew, eq]; rfl)⟩
      · rw [ez]; exact ny_inN (by omega) (by decide)
      · have e : o_shelf (nI t) y z s a hf = (nI 1, if s.1 q = 5 then nz_hs hf t 0 0 0 else nz_hs hf t 2 (s.1 q) (s.2.1 q)) := by simp only [o_shelf, et, ew, eq]; rfl
        rw [e] at h
        have sm := hM q (by omega)
        subst ez
        rw [nI_clamp (by omega)]
        refine s_No_shelf_a87 (by omega) (by omega) ⟨ny_inN (by omega) (by decide), ?_⟩
        rw [nI_clamp (by omega), sm.1]
        refine s_No_shelf_a96 (by omega) (by omega) ?_
        rw [sm.2.1]
        refine q_Sf_holdRow (by omega) fun I1 h1 h2 h3 h4 => h I1 (fun c hc => h1 c (by omega)) ?_
        by_cases c5 : s.1 q = 5
        · rw [if_pos c5]
          rw [nz_sv, if_pos c5] at h3
          exact nz_hs_C hH (fun q hq1 hq2 => h1 _ (by omega)) h2 h3 fun q => absurd q (by decide)
        · rw [if_neg c5]
          rw [nz_sv, if_neg c5] at h3
          exact nz_hs_C hH (fun q hq1 hq2 => h1 _ (by omega)) h2 h3 fun q => h4
    · have ew := iy 2 (by decide) c
      have e : o_shelf (nI t) y z s a hf = (nI 1, nz_hs hf t 0 0 0) := by simp only [o_shelf, et, ew]; rfl
      rw [e] at h
      exact s_Sf_holdNothing_0 (by omega) (q_Sf_holdRow (by omega) fun I1 h1 h2 h3 h4 => h I1 (fun c hc => h1 c (by omega)) (nz_hs_C hH (fun q hq1 hq2 => h1 _ (by omega)) h2 (h3.trans ny_m1) fun q => absurd q (by decide)))
    · have ew : nz_in 0 2 y = none := nz_in_n (by decide) (by decide) fun m _ hm e => by
        have : m = 0 ∨ m = 1 ∨ m = 2 := by omega
        rcases this with rfl | rfl | rfl
        · exact c0 e
        · exact c1 e
        · exact c2 e
      exact no (by simp only [o_shelf, et, ew])
theorem q_Ki_isKind {x : Int32} (h1 : ∀ m, nz_in 0 5 x = some m → m ≤ 5 → x = nI m → Q (nI 1) I) (h0 : nz_in 0 5 x = none → Q (nI 0) I) : ny_C1 d m_Ki_isKind [.int x] Ln I Q := by
  refine s_Ki_isKind_0 ⟨fun c => h0 (nz_in_n (by decide) (by decide) fun m _ hm e => ?_), fun c => ?_⟩
  · rw [e] at c; exact nI_pos (by omega) c
  · obtain ⟨k, hk, rfl⟩ := nI_of c
    rw [ny_lit, ny_lt (by decide) hk]
    refine ⟨fun c2 => h0 (nz_in_n (by decide) (by decide) fun m _ hm e => ?_), fun c2 => h1 k (nz_in_s (by decide) (by decide) (by omega) (Nat.le_of_not_lt c2) rfl) (Nat.le_of_not_lt c2) rfl⟩
    have := (ny_eq hk (by omega)).mp e
    have c2 : 5 < k := c2
    omega
theorem q_No_taken {x y : Int32} (hC : ny_Cl I a) (hV : ny_V a) (hH : ny_HC I hf) (hh : nz_HV hf) (h : Q (o_taken x y a hf) I) : ny_C1 (d + 2) m_No_taken [.ref 5, .int x, .int y] Ln I Q := by
  have v0 := hV.1.1
  -- what a shelf that is holds
  have main : ∀ t b, t ≤ 3 → x = nI t → nz_in 0 3 x = some t → b ≤ 1 → (b = 1 → ∃ w, nz_in 0 5 y = some w ∧ w ≤ 5 ∧ y = nI w) → (b = 0 → nz_in 0 5 y = none ∧ ∃ w, w ≤ 4 ∧ y - 10 = nI w ∧ y = nI (10 + w)) → ny_g (d + 2) m_No_taken 30 [(0, .ref 5), (1, .int x), (2, .int y), (3, .int (nI b))] [] Ln I (ny_r1 Ln Q) := by
    intro t b ht ex et hb h1 h0
    have hv := hh t (by omega)
    have hm := hH t (by omega)
    subst ex
    refine s_No_taken_30 ⟨ny_inN (by omega) (by decide), ?_⟩
    rw [nI_clamp (by omega), show 98 + 1 * t = 98 + t by omega]
    refine s_No_taken_a35 (by omega) (s_Sf_isRow_0 (by omega) ?_)
    rw [hm.2.1, hm.1]
    by_cases c2 : hf.1 t = 2
    · have v2 := hv.2.2 c2
      rw [if_pos c2, hm.2.2 c2]
      refine ⟨fun q => absurd q (by rw [ny_m1]; exact nz_neg rfl (by omega)), fun _ => ⟨fun q => absurd q (by decide), fun _ => ⟨fun c => ?_, fun c => ?_⟩⟩⟩
      · rcases Nat.lt_or_ge b 1 with q | q
        · obtain ⟨n5, w, hw, e1, e2⟩ := h0 (by omega)
          have e14 : nz_in 10 14 y = some (10 + w) := nz_in_s (by decide) (by decide) (by omega) (by omega) e2
          simp only [o_taken, et, n5, e14, if_pos c2] at h
          rw [if_neg (fun q => c (by rw [e1, q]; exact congrArg nI (by omega)))] at h
          rw [ny_m13]; exact h
        · obtain ⟨w, e5, hw, ey⟩ := h1 (by omega)
          simp only [o_taken, et, e5, if_pos c2] at h
          rw [if_neg (fun q => by omega)] at h
          rw [ny_m13]; exact h
      · rcases Nat.lt_or_ge b 1 with q | q
        · obtain ⟨n5, w, hw, e1, e2⟩ := h0 (by omega)
          have e14 : nz_in 10 14 y = some (10 + w) := nz_in_s (by decide) (by decide) (by omega) (by omega) e2
          rw [e1, ny_eq (by omega) (by omega)] at c
          simp only [o_taken, et, n5, e14, if_pos c2] at h
          rw [if_pos (by omega)] at h
          exact h
        · obtain ⟨w, e5, hw, ey⟩ := h1 (by omega)
          exfalso
          rw [ey] at c
          have := congrArg Int32.toInt c
          rw [nI_toInt (by omega), ny_lit, pk_sub_toInt (by omega) (by decide)] at this
          have this : ((hf.2.1 t : Nat) : Int) = (w : Int) - ((10 : Nat) : Int) := this
          omega
    · rw [if_neg c2]
      refine ⟨fun _ => ⟨fun _ => ?_, fun q => absurd rfl q⟩, fun q => absurd ny_m1.symm q⟩
      have noth : ¬ (hf.1 t = 1 ∧ hf.2.1 t < a 0) → Q (-11) I := by
        intro c1
        rcases Nat.lt_or_ge b 1 with q | q
        · obtain ⟨n5, w, hw, e1, e2⟩ := h0 (by omega)
          have e14 : nz_in 10 14 y = some (10 + w) := nz_in_s (by decide) (by decide) (by omega) (by omega) e2
          simp only [o_taken, et, n5, e14, if_neg c2, if_neg c1] at h
          rw [ny_m11]; exact h
        · obtain ⟨w, e5, hw, ey⟩ := h1 (by omega)
          simp only [o_taken, et, e5, if_neg c2, if_neg c1] at h
          rw [ny_m11]; exact h
      by_cases c1 : hf.1 t = 1
      · have v5 := hv.2.1 c1
        rw [if_pos c1]
        refine q_No_O hC.1 hV (fun k ek hk ez => ⟨fun _ => ?_, fun q => absurd q (by decide)⟩) fun ek => ⟨fun q => absurd rfl q, fun _ => noth fun q => ?_⟩
        · have ek2 := (ny_eq (by omega) (by omega)).mp ez
          rw [nI_clamp (by omega), ek2, (hC.1.2.1 k hk).1]
          have V2 := hV.2.1 k (by omega)
          rcases Nat.lt_or_ge b 1 with q | q
          · obtain ⟨n5, w, hw, e1, e2⟩ := h0 (by omega)
            have e14 : nz_in 10 14 y = some (10 + w) := nz_in_s (by decide) (by decide) (by omega) (by omega) e2
            simp only [o_taken, et, n5, e14] at h
            rw [if_neg c2, if_pos (show hf.1 t = 1 ∧ hf.2.1 t < a 0 from ⟨c1, by omega⟩)] at h
            rw [show b = 0 by omega]
            exact ⟨fun _ => by rw [ny_m13]; exact h, fun q => absurd rfl q⟩
          · obtain ⟨w, e5, hw, ey⟩ := h1 (by omega)
            simp only [o_taken, et, e5] at h
            rw [if_pos (show hf.1 t = 1 ∧ hf.2.1 t < a 0 from ⟨c1, by omega⟩), ek2] at h
            rw [show b = 1 by omega]
            refine ⟨fun q => absurd q (by decide), fun _ => ⟨ny_inN (by omega) (by decide), ?_⟩⟩
            rw [ey]
            refine q_Ki_isUnder hC.1.2.2.2.2.2.2.2 (by omega) (by omega) (hV.2.2.1 k hk) ?_
            by_cases u : ny_und (a (8 + 5 * k)) w = true
            · rw [if_pos u] at h ⊢
              exact ⟨fun q => absurd q (by decide), fun _ => h⟩
            · rw [if_neg u] at h ⊢
              exact ⟨fun _ => by rw [ny_m13]; exact h, fun q => absurd rfl q⟩
        · rw [nz_fg_s v0 q.2 rfl] at ek
          cases ek
      · rw [if_neg c1]
        refine q_No_O hC.1 hV (fun k ek hk ez => absurd ez.symm (nz_nm3 (by omega))) fun ek => ⟨fun q => absurd rfl q, fun _ => noth fun q => c1 q.1⟩
  refine s_No_taken_0 (q_Ki_isKind (fun w e5 hw ey => q_No_I 0 3 rfl rfl (by decide) (by decide) (fun t et _ ht ex => ⟨fun q => absurd q (by decide), fun _ => ⟨fun _ => main t 1 ht ex et (by decide) (fun _ => ⟨w, e5, hw, ey⟩) (fun q => absurd q (by decide)), fun q => absurd q (by decide)⟩⟩) fun et => ⟨fun _ => ?_, fun q => absurd rfl q⟩) fun e5 => q_No_I 0 3 rfl rfl (by decide) (by decide) (fun t et _ ht ex => ⟨fun q => absurd q (by decide), fun _ => ⟨fun q => absurd rfl q, fun _ => q_Sh_isSort (fun w ew hw ey => ⟨fun _ => main t 0 ht ex et (by decide) (fun q => absurd q (by decide)) (fun _ => ⟨e5, ?_⟩), fun q => absurd q (by decide)⟩) fun ew => ⟨fun q => absurd rfl q, fun _ => ?_⟩⟩⟩) fun et => ⟨fun _ => ?_, fun q => absurd rfl q⟩)
  · simp only [o_taken, et] at h
    rw [ny_m1]; exact h
  · rcases nz_in10 (y := y) with q | q
    · exact absurd ey (q w hw)
    · exact q
  · have n14 : nz_in 10 14 y = none := nz_in_n (by decide) (by decide) fun m hm1 hm e => by
      have : y - 10 = nI (m - 10) := by
        have q := nz_s10 (m - 10)
        rw [show 10 + (m - 10) = m by omega] at q
        rw [e]; exact q
      rw [nz_in_s (l := 0) (n := 4) (by decide) (by decide) (by omega) (by omega) this] at ew
      cases ew
    simp only [o_taken, et, e5, n14] at h
    rw [ny_m1]; exact h
  · simp only [o_taken, et] at h
    rw [ny_m1]; exact h
end NZSG
