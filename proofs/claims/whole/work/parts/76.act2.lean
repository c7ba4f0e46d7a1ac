/-! the model: act, trace; the class's acts -/
def nz_t0 : nz_tr := (0, fun _ => 0)
def o_acw (w k n b : Nat) (x : Int32) : Int32 × nz_tr :=
  if w = 0 then (nv_po k n x, nz_pu nz_t0 (nt_po k)) else if w = 1 then (nv_dr k n b x, nz_pu nz_t0 (nt_dr k)) else
  if w = 2 then (if nz_pz n b then nI 4294967281 else nv_gl k n b x, nz_pu nz_t0 (nt_gl k (nz_pz n b))) else (if nz_pz n b then nI 4294967281 else nv_lv k n b x, nz_pu nz_t0 (nt_lv k (nz_pz n b)))
def o_act (x y z : Int32) (a : ny_a) (h : nz_hf) : Int32 × nz_tr := match nz_in 0 3 x, nz_in 0 3 y with
  | some t, some w => if h.1 t = 1 ∧ h.2.1 t < a 0 then o_acw w (a (8 + 5 * h.2.1 t)) (h.2.1 t) (a (11 + 5 * h.2.1 t)) z else (nI 0, nz_t0)
  | _, _ => (nI 0, nz_t0)
def o_trace (x : Int32) (tr : nz_tr) : Int32 := match nz_bl (min 30 tr.1) x with
  | some i => nI (tr.2 i)
  | none => nI 4294967293
theorem ny_m15 : (-15 : Int32) = nI 4294967281 := by decide +kernel
def nz_qM (I : ny_I) (tr : nz_tr) : Prop := I 102 35 = nI (min 30 tr.1) ∧ ∀ j, j < min 30 tr.1 → I 119 j = nI (tr.2 j)
def nz_qC (I : ny_I) (tr : nz_tr) : Prop := I 88 1 = nI (min 30 tr.1) ∧ ∀ j, j < min 30 tr.1 → I 89 j = nI (tr.2 j)
def nz_TC (I : ny_I) (k n b : Nat) (tr : nz_tr) (p : Bool) : Prop := nz_qC I tr ∧ I 88 3 = nI k ∧ I 88 4 = nI n ∧ I 88 5 = nI b ∧ I 88 2 = if p then nI 1 else nI 0
def nz_tg (I' I : ny_I) : Prop := ∀ c, c ≠ 88 → c ≠ 89 → I' c = I c
theorem nz_tg_r (I : ny_I) : nz_tg I I := fun _ _ _ => rfl
theorem nz_tg_t {I1 I2 I3 : ny_I} (h : nz_tg I1 I2) (h2 : nz_tg I2 I3) : nz_tg I1 I3 := fun c x y => (h c x y).trans (h2 c x y)
section NZAD
variable {d Ln : Nat} {I : ny_I} {Q : Int32 → ny_I → Prop} {Q0 : ny_I → Prop} {a : ny_a} {hf : nz_hf} {k n b : Nat} {tr : nz_tr} {p : Bool}
theorem q_Md_trace {x : Int32} (hT : nz_qM I tr) (h : Q (o_trace x tr) I) : ny_C1 (d + 1) m_Md_trace [.ref 102, .int x] Ln I Q := by
  unfold o_trace at h
  refine s_Md_trace_0 ?_
  rw [hT.1]
  refine q_Md_inL rfl rfl (by omega) (fun i ei hi ex => ⟨fun q => absurd q (by decide), fun _ => ?_⟩) (fun ei => ⟨fun _ => ?_, fun q => absurd rfl q⟩)
  · rw [ei] at h
    subst ex
    simp (disch := omega) only [nI_clamp, ny_inN, true_and]
    rw [hT.2 i hi]; exact h
  · rw [ei] at h
    rw [ny_m3]; exact h
theorem q_Md_act {x y z : Int32} (ha : ny_Md I a) (hV : ny_V a) (hH : ny_HM I hf) (hh : nz_HV hf) (h : ∀ I', nz_tf I' I → nz_qM I' (o_act x y z a hf).2 → Q (o_act x y z a hf).1 I') : ny_C1 (d + 7) m_Md_act [.ref 102, .int x, .int y, .int z] Ln I Q := by
  have v0 := hV.1.1
  have hF0 : nz_tf (ny_up I 102 35 0) I := ⟨fun c q _ => ny_upne _ q _ _, fun j hj => by simp (disch := omega) only [ny_uprd, if_neg]⟩
  have no : o_act x y z a hf = (nI 0, nz_t0) → Q 0 (ny_up I 102 35 0) := fun e => by
    rw [e] at h
    refine h _ hF0 ⟨?_, fun j hj => absurd hj (by show ¬ j < min 30 0; omega)⟩
    simp (disch := omega) only [ny_uprd, if_true, and_self]; rfl
  refine s_Md_act_0 (q_Md_isShelf (d := d + 5) (fun t et ht ex => ⟨fun q => absurd q (by decide), fun _ => q_Md_I 0 3 rfl rfl (by decide) (by decide) (fun w ew _ hw ey => ⟨fun q => absurd q (by decide), fun _ => ?_⟩) (fun ew => ⟨fun _ => no (by simp only [o_act, et, ew]), fun q => absurd rfl q⟩)⟩) fun et => ⟨fun _ => no (by simp only [o_act, et]), fun q => absurd rfl q⟩)
  have hv := hh t (by omega)
  have hm := hH t (by omega)
  have ha0 : ny_Md (ny_up I 102 35 0) a := fun j => by rw [ny_upne _ (by decide)]; exact ha j
  have hH0 : ny_HM (ny_up I 102 35 0) hf := fun q hq => by rw [ny_upne _ (by decide), ny_upne _ (by decide), ny_upne _ (by decide)]; exact hH q hq
  have it : ny_in x 4 = true := by rw [ex]; exact ny_inN (by omega) (by decide)
  subst ex ey
  refine q_Md_heldOn (d := d + 5) ha0 hV hH0 hh (by omega) ?_
  have ho2 : nz_ho a hf t ≤ 2 := by unfold nz_ho; split <;> omega
  have f1 : nI (nz_ho a hf t) = (1 : Int32) ↔ nz_ho a hf t = 1 := ny_eq (by omega) (by decide)
  rw [f1]
  by_cases c1 : hf.1 t = 1 ∧ hf.2.1 t < a 0
  · have e1 : nz_ho a hf t = 1 := by unfold nz_ho; rw [if_neg (fun q => q.2 c1.2)]; exact c1.1
    have h17 : I 117 t = nI (hf.2.1 t) := hm.2.1 (by omega)
    simp only [o_act, et, ew, if_pos c1] at h
    generalize hf.2.1 t = n at *
    have V2 := hV.2.1 n (by omega)
    refine ⟨fun _ => ⟨it, ?_⟩, fun q => absurd e1 q⟩
    rw [nI_clamp (by omega)]
    rw [show ny_up (ny_up I 102 35 0) 102 39 0 117 t = nI n by rw [ny_upne _ (by decide), ny_upne _ (by decide)]; exact h17]
    refine q_Md_t0 (fun j => by rw [ny_upne _ (by decide)]; exact ha0 j) (by omega) ⟨it, it, ?_⟩
    rw [show (ny_up (ny_up (ny_up I 102 35 0) 102 39 0) 102 36 (nI (a (8 + 5 * n)))) 117 t = nI n by rw [ny_upne _ (by decide), ny_upne _ (by decide), ny_upne _ (by decide)]; exact h17]
    rw [show (ny_up (ny_up (ny_up (ny_up I 102 35 0) 102 39 0) 102 36 (nI (a (8 + 5 * n)))) 102 37 (nI n)) 117 t = nI n by rw [ny_upne _ (by decide), ny_upne _ (by decide), ny_upne _ (by decide), ny_upne _ (by decide)]; exact h17]
    refine q_Md_t3 (fun j => by rw [ny_upne _ (by decide), ny_upne _ (by decide), ny_upne _ (by decide)]; exact ha0 j) (by omega) ?_
    have hF1 : nz_tf (ny_up (ny_up (ny_up (ny_up (ny_up I 102 35 0) 102 39 0) 102 36 (nI (a (8 + 5 * n)))) 102 37 (nI n)) 102 38 (nI (a (11 + 5 * n)))) I := ⟨fun c q _ => by rw [ny_upne _ q, ny_upne _ q, ny_upne _ q, ny_upne _ q, ny_upne _ q], fun j hj => by simp (disch := omega) only [ny_uprd, if_neg]⟩
    have hT : nz_TM (ny_up (ny_up (ny_up (ny_up (ny_up I 102 35 0) 102 39 0) 102 36 (nI (a (8 + 5 * n)))) 102 37 (nI n)) 102 38 (nI (a (11 + 5 * n)))) (a (8 + 5 * n)) n (a (11 + 5 * n)) nz_t0 false := by
      refine ⟨⟨?_, fun j hj => absurd hj (by show ¬ j < min 30 0; omega)⟩, ?_, ?_, ?_, ?_⟩
      · simp (disch := omega) only [ny_uprd, if_neg, if_true, and_self]; rfl
      · simp (disch := omega) only [ny_uprd, if_neg, if_true, and_self]
      · simp (disch := omega) only [ny_uprd, if_neg, if_true, and_self]
      · simp (disch := omega) only [ny_uprd, if_neg, if_true, and_self]
      · simp (disch := omega) only [ny_uprd, if_neg, if_true, and_self]; rfl
    generalize ny_up (ny_up (ny_up (ny_up (ny_up I 102 35 0) 102 39 0) 102 36 (nI (a (8 + 5 * n)))) 102 37 (nI n)) 102 38 (nI (a (11 + 5 * n))) = I1 at *
    have g2 : ∀ (I' : ny_I) (v u : Int32) (l : List Nat), nz_tf I' I1 → nz_TM I' (a (8 + 5 * n)) n (a (11 + 5 * n)) (nz_pu nz_t0 l) (nz_pz n (a (11 + 5 * n))) → (nz_pz n (a (11 + 5 * n)) = false → v = u) → o_acw w (a (8 + 5 * n)) n (a (11 + 5 * n)) z = (if nz_pz n (a (11 + 5 * n)) then nI 4294967281 else u, nz_pu nz_t0 l) → (I' 102 39 = 0 → Q v I') ∧ (¬ I' 102 39 = 0 → Q (-15) I') := by
      intro I' v u l hF hT' hv e
      have := h I' (nz_tf_t hF hF1)
      rw [e] at this
      have h39 : I' 102 39 = if nz_pz n (a (11 + 5 * n)) then nI 1 else nI 0 := hT'.2.2.2.2
      rw [h39]
      cases ep : nz_pz n (a (11 + 5 * n)) with
      | true =>
        rw [ep] at this
        exact ⟨fun q => absurd q (by decide), fun _ => by rw [ny_m15]; exact this hT'.1⟩
      | false =>
        rw [ep] at this
        exact ⟨fun _ => by rw [hv ep]; exact this hT'.1, fun q => absurd rfl q⟩
    have g1 : ∀ (I' : ny_I) (v : Int32) (l : List Nat), nz_tf I' I1 → nz_TM I' (a (8 + 5 * n)) n (a (11 + 5 * n)) (nz_pu nz_t0 l) false → o_acw w (a (8 + 5 * n)) n (a (11 + 5 * n)) z = (v, nz_pu nz_t0 l) → (I' 102 39 = 0 → Q v I') ∧ (¬ I' 102 39 = 0 → Q (-15) I') := by
      intro I' v l hF hT' e
      have := h I' (nz_tf_t hF hF1)
      rw [e] at this
      have h39 : I' 102 39 = nI 0 := hT'.2.2.2.2
      rw [h39]
      exact ⟨fun _ => this hT'.1, fun q => absurd rfl q⟩
    have w1 : nI w = (1 : Int32) ↔ w = 1 := ny_eq (by omega) (by decide)
    have w2 : nI w = (2 : Int32) ↔ w = 2 := ny_eq (by omega) (by decide)
    have w0 : nI w = (0 : Int32) ↔ w = 0 := ny_eq (by omega) (by decide)
    rw [w0, w1, w2]
    refine ⟨fun c0 => ⟨fun c1 => ⟨fun c2 => q_Md_leaves (d := d) hT (by omega) (by omega) (by omega) fun I' v hF hT' hv => g2 I' v _ _ hF hT' hv ?_, fun c2 => q_Md_glances (d := d + 3) hT (by omega) (by omega) (by omega) fun I' v hF hT' hv => g2 I' v _ _ hF hT' hv ?_⟩, fun c1 => q_Md_drips (d := d + 2) hT (by omega) fun I' hF hT' => g1 I' _ _ hF hT' ?_⟩, fun c0 => q_Md_poses (d := d + 4) hT (by omega) fun I' hF hT' => g1 I' _ _ hF hT' ?_⟩
    · unfold o_acw; rw [if_neg c0, if_neg c1, if_neg c2]
    · unfold o_acw; rw [if_neg c0, if_neg c1, if_pos c2]
    · unfold o_acw; rw [if_neg c0, if_pos c1]
    · unfold o_acw; rw [if_pos c0]
  · have e1 : nz_ho a hf t ≠ 1 := by unfold nz_ho; split <;> omega
    exact ⟨fun q => absurd q e1, fun _ => no (by simp only [o_act, et, ew, if_neg c1])⟩
theorem q_Ac_ran {x : Nat} (hT : nz_TC I k n b tr p) (h : ∀ I', nz_tg I' I → nz_TC I' k n b (nz_pq p tr [x]) p → Q0 I') : ny_C0 d m_Ac_ran [.ref 88, .int (nI x)] Ln I Q0 := by
  obtain ⟨⟨t1, t2⟩, t3, t4, t5, t6⟩ := hT
  refine s_Ac_ran_0 ?_
  rw [t1, t6]
  cases p with
  | true => exact ⟨fun _ => h I (nz_tg_r I) ⟨⟨t1, t2⟩, t3, t4, t5, t6⟩, fun q => absurd q (by decide)⟩
  | false =>
    refine ⟨fun q => absurd rfl q, fun _ => ?_⟩
    simp (disch := omega) only [ny_lit, nI_add, ny_mul, nI_clamp, ny_le, ny_lt, ny_eq, ny_div, ny_rem, ny_rem2, ny_inN]
    refine ⟨fun c => h I (nz_tg_r I) ⟨⟨?_, fun j hj => ?_⟩, t3, t4, t5, t6⟩, fun c => ⟨ny_inN (by omega) (by decide), ?_⟩⟩
    · rw [t1]; show nI (min 30 tr.1) = nI (min 30 (tr.1 + 1)); congr 1; omega
    · have hj : j < min 30 (tr.1 + 1) := hj
      show I 89 j = nI (if j = tr.1 then x else tr.2 j)
      rw [if_neg (by omega)]; exact t2 j (by omega)
    · rw [show ny_up I 89 (min 30 tr.1) (nI x) 88 1 = nI (min 30 tr.1) by rw [ny_upne _ (by decide)]; exact t1, nI_add]
      refine h _ (fun c x y => by rw [ny_upne _ x, ny_upne _ y]) ⟨⟨?_, fun j hj => ?_⟩, ?_, ?_, ?_, ?_⟩
      · simp (disch := omega) only [ny_uprd, if_true, and_self]
        show nI (min 30 tr.1 + 1) = nI (min 30 (tr.1 + 1)); congr 1; omega
      · have hj : j < min 30 (tr.1 + 1) := hj
        show _ = nI (if j = tr.1 then x else tr.2 j)
        rw [ny_upne _ (by decide), ny_upeq]
        unfold upd
        by_cases e : j = tr.1
        · rw [if_pos (by omega), if_pos e]
        · rw [if_neg (by omega), if_neg e]; exact t2 j (by omega)
      · simp (disch := omega) only [ny_uprd, if_neg]; exact t3
      · simp (disch := omega) only [ny_uprd, if_neg]; exact t4
      · simp (disch := omega) only [ny_uprd, if_neg]; exact t5
      · simp (disch := omega) only [ny_uprd, if_neg]; exact t6
theorem nz_pq_a (p : Bool) (tr : nz_tr) (l l2 : List Nat) : nz_pq p (nz_pq p tr l) l2 = nz_pq p tr (l ++ l2) := by
  cases p with
  | true => rfl
  | false => exact (nz_pu_a tr l l2).symm
theorem q_Ac_figurePoses {x : Int32} (hT : nz_TC I k n b tr p) (h : ∀ I', nz_tg I' I → nz_TC I' k n b (nz_pq p tr [10]) p → Q (x * 3 + nI n) I') : ny_C1 (d + 1) m_Ac_figurePoses [.ref 88, .int x] Ln I Q :=
  s_Ac_figurePoses_0 (q_Ac_ran (x := 10) hT fun I' hF hT' => by rw [hT'.2.2.1]; exact h I' hF hT')
theorem q_Ac_poses {x : Int32} (hT : nz_TC I k n b tr p) (hk : k ≤ 5) (h : ∀ I', nz_tg I' I → nz_TC I' k n b (nz_pq p tr (nt_po k)) p → Q (nv_po k n x) I') : ny_C1 (d + 2) m_Ac_poses [.ref 88, .int x] Ln I Q := by
  unfold nv_po nt_po at h
  refine s_Ac_poses_0 ?_
  have f1 : nI k = (1 : Int32) ↔ k = 1 := ny_eq (by omega) (by decide)
  have f3 : nI k = (3 : Int32) ↔ k = 3 := ny_eq (by omega) (by decide)
  rw [hT.2.1, f1, f3]
  refine ⟨fun c1 => q_Ac_ran (x := 20) hT fun I1 hF1 hT1 => q_Ac_figurePoses (d := d) hT1 fun I' hF hT' => ?_, fun c3 => q_Ac_ran (x := 50) hT fun I1 hF1 hT1 => q_Ac_figurePoses (d := d) hT1 fun I' hF hT' => ?_, fun c1 c3 => q_Ac_figurePoses (d := d) hT fun I' hF hT' => ?_⟩
  · have := h I' (nz_tg_t hF hF1)
    simp only [if_pos c1] at this
    rw [nz_pq_a] at hT'
    exact this hT'
  · have := h I' (nz_tg_t hF hF1)
    simp only [if_neg (show ¬ k = 1 by omega), if_pos c3] at this
    rw [nz_pq_a] at hT'
    exact this hT'
  · have := h I' hF
    simp only [if_neg c1, if_neg c3] at this
    exact this hT'
theorem q_Ac_figureDrips {x : Int32} (hT : nz_TC I k n b tr p) (hk : k ≤ 5) (h : ∀ I', nz_tg I' I → nz_TC I' k n b (nz_pq p tr (11 :: nt_po k)) p → Q (nv_dp k n b x) I') : ny_C1 (d + 3) m_Ac_figureDrips [.ref 88, .int x] Ln I Q :=
  s_Ac_figureDrips_0 (q_Ac_ran (x := 11) hT fun I1 hF1 hT1 => q_Ac_poses (d := d) hT1 hk fun I' hF hT' => by
    rw [hT'.2.2.2.1]
    rw [nz_pq_a] at hT'
    exact h I' (nz_tg_t hF hF1) hT')
theorem q_Ac_drips {x : Int32} (hT : nz_TC I k n b tr p) (hk : k ≤ 5) (h : ∀ I', nz_tg I' I → nz_TC I' k n b (nz_pq p tr (nt_dr k)) p → Q (nv_dr k n b x) I') : ny_C1 (d + 4) m_Ac_drips [.ref 88, .int x] Ln I Q := by
  unfold nv_dr nt_dr at h
  refine s_Ac_drips_0 ?_
  have f2 : nI k = (2 : Int32) ↔ k = 2 := ny_eq (by omega) (by decide)
  have f3 : nI k = (3 : Int32) ↔ k = 3 := ny_eq (by omega) (by decide)
  have f4 : nI k = (4 : Int32) ↔ k = 4 := ny_eq (by omega) (by decide)
  have f5 : nI k = (5 : Int32) ↔ k = 5 := ny_eq (by omega) (by decide)
  rw [hT.2.1, f2, f3, f4, f5]
  have w30 : k = 2 ∨ k = 3 → ny_C0 (d + 3) m_Ac_ran [.ref 88, .int (30 : Int32)] Ln I (fun I1 => ny_C1 (d + 3) m_Ac_figureDrips [.ref 88, .int x] Ln I1 (fun r I2 => Q (r * 3) I2)) := by
    intro c
    refine q_Ac_ran (x := 30) hT fun I1 hF1 hT1 => q_Ac_figureDrips (d := d) hT1 hk fun I' hF hT' => ?_
    have := h I' (nz_tg_t hF hF1)
    simp only [if_pos c] at this
    rw [nz_pq_a] at hT'
    exact this hT'
  have pl : ¬ (k = 2 ∨ k = 3) → ¬ k = 5 → ny_C1 (d + 3) m_Ac_figureDrips [.ref 88, .int x] Ln I (fun r I2 => Q r I2) := by
    intro c c5
    refine q_Ac_figureDrips (d := d) hT hk fun I' hF hT' => ?_
    have := h I' hF
    simp only [if_neg c, if_neg c5] at this
    exact this hT'
  refine ⟨fun c => w30 (Or.inl c), fun c => w30 (Or.inr c), fun c => pl (by omega) (by omega), fun c5 => q_Ac_ran (x := 60) hT fun I1 hF1 hT1 => q_Ac_figureDrips (d := d) hT1 hk fun I' hF hT' => ?_, fun c2 c3 c4 c5 => pl (by omega) c5⟩
  have := h I' (nz_tg_t hF hF1)
  simp only [if_neg (show ¬ (k = 2 ∨ k = 3) by omega), if_pos c5] at this
  rw [nz_pq_a] at hT'
  exact this hT'
theorem q_Ac_figureGlances {x : Int32} (hT : nz_TC I k n b tr false) (hn : n < 6) (hb : b < 6) (h : ∀ I' v, nz_tg I' I → nz_TC I' k n b (nz_p1 tr 12) (nz_pz n b) → (nz_pz n b = false → v = nv_gp n b x) → Q v I') : ny_C1 (d + 1) m_Ac_figureGlances [.ref 88, .int x] Ln I Q := by
  refine s_Ac_figureGlances_0 (q_Ac_ran (x := 12) hT fun I1 hF1 hT1 => ?_)
  have hT1' := hT1
  obtain ⟨⟨t1, t2⟩, t3, t4, t5, t6⟩ := hT1
  have hz := nz_pz_t hn hb
  rw [t4, t5]
  refine ⟨fun c => ⟨?_, ?_⟩, fun c => ?_⟩
  · simp only [c, decide_false, Bool.not_false]
  · have cf : nz_pz n b = false := by
      cases e : nz_pz n b with
      | false => rfl
      | true => exact absurd (hz.mpr e) c
    have := h I1 (nv_gp n b x) hF1
    rw [cf] at this
    exact this hT1' (fun _ => rfl)
  · have c := hz.mp c
    have := h (ny_up I1 88 2 1) 0 (fun c x y => by rw [ny_upne _ x]; exact hF1 c x y)
    rw [c] at this
    refine this ⟨⟨?_, fun j hj => ?_⟩, ?_, ?_, ?_, ?_⟩ (fun q => by cases q)
    · simp (disch := omega) only [ny_uprd, if_neg]; exact t1
    · rw [ny_upne _ (by decide)]; exact t2 j hj
    · simp (disch := omega) only [ny_uprd, if_neg]; exact t3
    · simp (disch := omega) only [ny_uprd, if_neg]; exact t4
    · simp (disch := omega) only [ny_uprd, if_neg]; exact t5
    · rw [ny_upeq]; rfl
theorem q_Ac_novice {x : Int32} (hT : nz_TC I k n b tr false) (hn : n < 6) (hb : b < 6) (h : ∀ I' v, nz_tg I' I → nz_TC I' k n b (nz_pu tr [40, 12]) (nz_pz n b) → (nz_pz n b = false → v = nv_gp n b x - 1) → Q v I') : ny_C1 (d + 2) m_Ac_noviceGlances [.ref 88, .int x] Ln I Q :=
  s_Ac_noviceGlances_0 (q_Ac_ran (x := 40) hT fun I1 hF1 hT1 => q_Ac_figureGlances (d := d) hT1 hn hb fun I' v hF hT' hv => h I' _ (nz_tg_t hF hF1) hT' fun q => by rw [hv q])
theorem q_Ac_glances {x : Int32} (hT : nz_TC I k n b tr false) (hk : k ≤ 5) (hn : n < 6) (hb : b < 6) (h : ∀ I' v, nz_tg I' I → nz_TC I' k n b (nz_pu tr (nt_gl k (nz_pz n b))) (nz_pz n b) → (nz_pz n b = false → v = nv_gl k n b x) → Q v I') : ny_C1 (d + 3) m_Ac_glances [.ref 88, .int x] Ln I Q := by
  unfold nv_gl nt_gl at h
  refine s_Ac_glances_0 ?_
  have f4 : nI k = (4 : Int32) ↔ k = 4 := ny_eq (by omega) (by decide)
  have f5 : nI k = (5 : Int32) ↔ k = 5 := ny_eq (by omega) (by decide)
  rw [hT.2.1, f4, f5]
  refine ⟨fun c4 => q_Ac_novice (d := d) hT hn hb fun I' v hF hT' hv => ?_, fun c5 => q_Ac_ran (x := 61) hT fun I1 hF1 hT1 => q_Ac_novice (d := d) hT1 hn hb fun I2 v hF2 hT2 hv => ?_, fun c4 c5 => q_Ac_figureGlances (d := d + 1) hT hn hb fun I' v hF hT' hv => ?_⟩
  · have := h I' v hF
    simp only [if_pos c4] at this
    exact this hT' hv
  · rw [hT2.2.2.1]
    refine q_Ac_poses (d := d) hT2 hk fun I' hF hT' => ?_
    have := h I' (v ^^^ nv_po k n (nI n)) (nz_tg_t hF (nz_tg_t hF2 hF1))
    simp only [if_neg (show ¬ k = 4 by omega), if_pos c5] at this
    refine this ?_ (fun q => by rw [hv q])
    cases e : nz_pz n b with
    | true => rw [e] at hT'; exact hT'
    | false => rw [e] at hT'; exact hT'
  · have := h I' v hF
    simp only [if_neg c4, if_neg c5] at this
    exact this hT' hv
theorem q_Ac_figureLeaves {x : Int32} (hT : nz_TC I k n b tr false) (hk : k ≤ 5) (hn : n < 6) (hb : b < 6) (h : ∀ I' v, nz_tg I' I → nz_TC I' k n b (nz_pu tr (nt_lp k (nz_pz n b))) (nz_pz n b) → (nz_pz n b = false → v = nv_lp k n b x) → Q v I') : ny_C1 (d + 5) m_Ac_figureLeaves [.ref 88, .int x] Ln I Q := by
  refine s_Ac_figureLeaves_0 (q_Ac_ran (x := 13) hT fun I1 hF1 hT1 => q_Ac_drips (d := d) hT1 hk fun I2 hF2 hT2 => q_Ac_glances (d := d + 1) hT2 hk hn hb fun I' v hF hT' hv => h I' _ (nz_tg_t hF (nz_tg_t hF2 hF1)) ?_ fun q => by rw [hv q]; rfl)
  show nz_TC I' k n b (nz_pu tr (13 :: (nt_dr k ++ nt_gl k (nz_pz n b)))) (nz_pz n b)
  rw [← nz_pu_c, nz_pu_a]
  exact hT'
theorem q_Ac_leaves {x : Int32} (hT : nz_TC I k n b tr false) (hk : k ≤ 5) (hn : n < 6) (hb : b < 6) (h : ∀ I' v, nz_tg I' I → nz_TC I' k n b (nz_pu tr (nt_lv k (nz_pz n b))) (nz_pz n b) → (nz_pz n b = false → v = nv_lv k n b x) → Q v I') : ny_C1 (d + 6) m_Ac_leaves [.ref 88, .int x] Ln I Q := by
  unfold nv_lv nt_lv at h
  refine s_Ac_leaves_0 ?_
  have f3 : nI k = (3 : Int32) ↔ k = 3 := ny_eq (by omega) (by decide)
  rw [hT.2.1, f3]
  refine ⟨fun c3 => q_Ac_figureLeaves (d := d) hT hk hn hb fun I' v hF hT' hv => ?_, fun c3 => q_Ac_ran (x := 51) hT fun I1 hF1 hT1 => q_Ac_figureLeaves (d := d) hT1 hk hn hb fun I2 v hF2 hT2 hv => ?_⟩
  · have := h I' v hF
    simp only [if_neg c3] at this
    exact this hT' hv
  · rw [hT2.2.2.2.1]
    refine q_Ac_drips (d := d + 1) hT2 hk fun I' hF hT' => ?_
    have := h I' (v + nv_dr k n b (nI b)) (nz_tg_t hF (nz_tg_t hF2 hF1))
    simp only [if_pos c3] at this
    refine this ?_ (fun q => by rw [hv q])
    rw [← nz_pu_c, nz_pu_a]
    cases e : nz_pz n b with
    | true => rw [e] at hT'; exact hT'
    | false => rw [e] at hT'; exact hT'
theorem q_No_trace {x : Int32} (hT : nz_qC I tr) (h : Q (o_trace x tr) I) : ny_C1 d m_No_trace [.ref 5, .int x] Ln I Q := by
  unfold o_trace at h
  refine s_No_trace_0 ?_
  rw [hT.1]
  have no : nz_bl (min 30 tr.1) x = none → Q (-3) I := fun e => by
    rw [e] at h; rw [ny_m3]; exact h
  refine ⟨fun c => no (nz_bl_n (by omega) fun m hm e => ?_), fun c => ?_⟩
  · rw [e] at c; exact nI_pos (by omega) c
  · obtain ⟨i, hi, rfl⟩ := nI_of c
    rw [ny_le (by omega) hi]
    refine ⟨fun c2 => no (nz_bl_n (by omega) fun m hm e => ?_), fun c2 => ⟨ny_inN (by omega) (by decide), ?_⟩⟩
    · have := (ny_eq hi (by omega)).mp e
      omega
    · rw [nz_bl_s (by omega) (Nat.lt_of_not_le c2) rfl] at h
      rw [nI_clamp hi, hT.2 i (by omega)]; exact h
theorem q_No_act {x y z : Int32} (hC : ny_Cl I a) (hV : ny_V a) (hH : ny_HC I hf) (hh : nz_HV hf) (h : ∀ I', nz_tg I' I → nz_qC I' (o_act x y z a hf).2 → Q (o_act x y z a hf).1 I') : ny_C1 (d + 7) m_No_act [.ref 5, .int x, .int y, .int z] Ln I Q := by
  have v0 := hV.1.1
  refine s_No_act_0 (s_Ac_clear_0 ?_)
  have hF0 : nz_tg (ny_up (ny_up I 88 1 0) 88 2 0) I := fun c q _ => by rw [ny_upne _ q, ny_upne _ q]
  have hq0 : nz_qC (ny_up (ny_up I 88 1 0) 88 2 0) nz_t0 := ⟨by simp (disch := omega) only [ny_uprd, if_neg, if_true, and_self]; rfl, fun j hj => absurd hj (by show ¬ j < min 30 0; omega)⟩
  have h20 : (ny_up (ny_up I 88 1 0) 88 2 0) 88 2 = 0 := by simp (disch := omega) only [ny_uprd, if_true, and_self]
  generalize ny_up (ny_up I 88 1 0) 88 2 0 = I0 at *
  have no : o_act x y z a hf = (nI 0, nz_t0) → Q 0 I0 := fun e => by
    rw [e] at h; exact h _ hF0 hq0
  refine q_No_I 0 3 rfl rfl (by decide) (by decide) (fun t et _ ht ex => ⟨fun q => absurd q (by decide), fun _ => q_No_I 0 3 rfl rfl (by decide) (by decide) (fun w ew _ hw ey => ⟨fun _ => ⟨?_, ?_⟩, fun q => absurd q (by decide)⟩) (fun ew => ⟨fun q => absurd rfl q, fun _ => no (by simp only [o_act, et, ew])⟩)⟩) fun et => ⟨fun _ => no (by simp only [o_act, et]), fun q => absurd rfl q⟩
  · rw [ex]; exact ny_inN (by omega) (by decide)
  · have hv := hh t (by omega)
    have hm := hH t (by omega)
    subst ex ey
    have hB0 : ny_Ba I0 a := nz_Ba_q (fun q hq => hF0 q (by omega) (by omega)) (fun j _ => by rw [hF0 22 (by decide) (by decide)]) (fun _ _ _ _ => rfl) hV hC.1
    rw [nI_clamp (by omega), show 98 + 1 * t = 98 + t by omega]
    refine s_No_act_a32 (by omega) ?_
    rw [hF0 (98 + t) (by omega) (by omega), hm.1]
    by_cases c1 : hf.1 t = 1
    · have v5 := hv.2.1 c1
      rw [if_pos c1]
      refine q_No_O hB0 hV (fun n en hn ez => ⟨fun _ => ⟨ny_inN (by omega) (by decide), ny_inN (by omega) (by decide), ?_⟩, fun q => absurd q (by decide)⟩) fun en => ⟨fun q => absurd rfl q, fun _ => no ?_⟩
      · have en2 := (ny_eq (by omega) (by omega)).mp ez
        have c2 : hf.1 t = 1 ∧ hf.2.1 t < a 0 := ⟨c1, by omega⟩
        simp only [o_act, et, ew, if_pos c2] at h
        rw [en2] at h ⊢
        have V2 := hV.2.1 n (by omega)
        have bn := hB0.2.1 n hn
        rw [nI_clamp (by omega), bn.1, bn.2.2]
        refine s_Ac_begin_0 ?_
        have hF1 : nz_tg (ny_up (ny_up (ny_up I0 88 3 (nI (a (8 + 5 * n)))) 88 4 (nI n)) 88 5 (nI (a (11 + 5 * n)))) I := fun c q y => by rw [ny_upne _ q, ny_upne _ q, ny_upne _ q]; exact hF0 c q y
        have hT : nz_TC (ny_up (ny_up (ny_up I0 88 3 (nI (a (8 + 5 * n)))) 88 4 (nI n)) 88 5 (nI (a (11 + 5 * n)))) (a (8 + 5 * n)) n (a (11 + 5 * n)) nz_t0 false := by
          refine ⟨⟨?_, fun j hj => absurd hj (by show ¬ j < min 30 0; omega)⟩, ?_, ?_, ?_, ?_⟩
          · simp (disch := omega) only [ny_uprd, if_neg]; exact hq0.1
          · simp (disch := omega) only [ny_uprd, if_neg, if_true, and_self]
          · simp (disch := omega) only [ny_uprd, if_neg, if_true, and_self]
          · simp (disch := omega) only [ny_uprd, if_true, and_self]
          · simp (disch := omega) only [ny_uprd, if_neg]; exact h20
        generalize ny_up (ny_up (ny_up I0 88 3 (nI (a (8 + 5 * n)))) 88 4 (nI n)) 88 5 (nI (a (11 + 5 * n))) = I1 at *
        have g2 : ∀ (I' : ny_I) (v u : Int32) (l : List Nat), nz_tg I' I1 → nz_TC I' (a (8 + 5 * n)) n (a (11 + 5 * n)) (nz_pu nz_t0 l) (nz_pz n (a (11 + 5 * n))) → (nz_pz n (a (11 + 5 * n)) = false → v = u) → o_acw w (a (8 + 5 * n)) n (a (11 + 5 * n)) z = (if nz_pz n (a (11 + 5 * n)) then nI 4294967281 else u, nz_pu nz_t0 l) → (I' 88 2 = 0 → Q v I') ∧ (¬ I' 88 2 = 0 → Q (-15) I') := by
          intro I' v u l hF hT' hv e
          have := h I' (nz_tg_t hF hF1)
          rw [e] at this
          have h39 : I' 88 2 = if nz_pz n (a (11 + 5 * n)) then nI 1 else nI 0 := hT'.2.2.2.2
          rw [h39]
          cases ep : nz_pz n (a (11 + 5 * n)) with
          | true =>
            rw [ep] at this
            exact ⟨fun q => absurd q (by decide), fun _ => by rw [ny_m15]; exact this hT'.1⟩
          | false =>
            rw [ep] at this
            exact ⟨fun _ => by rw [hv ep]; exact this hT'.1, fun q => absurd rfl q⟩
        have g1 : ∀ (I' : ny_I) (v : Int32) (l : List Nat), nz_tg I' I1 → nz_TC I' (a (8 + 5 * n)) n (a (11 + 5 * n)) (nz_pu nz_t0 l) false → o_acw w (a (8 + 5 * n)) n (a (11 + 5 * n)) z = (v, nz_pu nz_t0 l) → (I' 88 2 = 0 → Q v I') ∧ (¬ I' 88 2 = 0 → Q (-15) I') := by
          intro I' v l hF hT' e
          have := h I' (nz_tg_t hF hF1)
          rw [e] at this
          have h39 : I' 88 2 = nI 0 := hT'.2.2.2.2
          rw [h39]
          exact ⟨fun _ => this hT'.1, fun q => absurd rfl q⟩
        have w1 : nI w = (1 : Int32) ↔ w = 1 := ny_eq (by omega) (by decide)
        have w2 : nI w = (2 : Int32) ↔ w = 2 := ny_eq (by omega) (by decide)
        have w0 : nI w = (0 : Int32) ↔ w = 0 := ny_eq (by omega) (by decide)
        rw [w0, w1, w2]
        refine ⟨fun c0 => ⟨fun c1 => ⟨fun c2 => q_Ac_leaves (d := d) hT (by omega) (by omega) (by omega) fun I' v hF hT' hv => g2 I' v _ _ hF hT' hv ?_, fun c2 => q_Ac_glances (d := d + 3) hT (by omega) (by omega) (by omega) fun I' v hF hT' hv => g2 I' v _ _ hF hT' hv ?_⟩, fun c1 => q_Ac_drips (d := d + 2) hT (by omega) fun I' hF hT' => g1 I' _ _ hF hT' ?_⟩, fun c0 => q_Ac_poses (d := d + 4) hT (by omega) fun I' hF hT' => g1 I' _ _ hF hT' ?_⟩
        · unfold o_acw; rw [if_neg c0, if_neg c1, if_neg c2]
        · unfold o_acw; rw [if_neg c0, if_neg c1, if_pos c2]
        · unfold o_acw; rw [if_neg c0, if_pos c1]
        · unfold o_acw; rw [if_pos c0]
      · have : ¬ (hf.1 t = 1 ∧ hf.2.1 t < a 0) := fun q => by
          rw [nz_fg_s v0 q.2 rfl] at en
          cases en
        simp only [o_act, et, ew, if_neg this]
    · rw [if_neg c1]
      refine q_No_O hB0 hV (fun n en hn ez => absurd ez.symm (nz_nm3 (by omega))) fun en => ⟨fun q => absurd rfl q, fun _ => no ?_⟩
      have : ¬ (hf.1 t = 1 ∧ hf.2.1 t < a 0) := fun q => c1 q.1
      simp only [o_act, et, ew, if_neg this]
end NZAD
