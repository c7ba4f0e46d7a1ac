/-! acts: what they come to, and the model's -/
abbrev nz_tr : Type := Nat × (Nat → Nat)
def nz_p1 (tr : nz_tr) (x : Nat) : nz_tr := (tr.1 + 1, fun j => if j = tr.1 then x else tr.2 j)
def nz_pu (tr : nz_tr) (l : List Nat) : nz_tr := l.foldl nz_p1 tr
/-- nothing more is told once it is parted -/
def nz_pq (p : Bool) (tr : nz_tr) (l : List Nat) : nz_tr := if p then tr else nz_pu tr l
theorem nz_pu_a (tr : nz_tr) (l l2 : List Nat) : nz_pu tr (l ++ l2) = nz_pu (nz_pu tr l) l2 := List.foldl_append
theorem nz_pu_c (tr : nz_tr) (x : Nat) (l : List Nat) : nz_pu (nz_p1 tr x) l = nz_pu tr (x :: l) := rfl
def nv_po (k n : Nat) (x : Int32) : Int32 := if k = 1 then (x * 3 + nI n) ^^^ 7 else if k = 3 then (x + 8) * 3 + nI n else x * 3 + nI n
def nt_po (k : Nat) : List Nat := if k = 1 then [20, 10] else if k = 3 then [50, 10] else [10]
def nv_dp (k n b : Nat) (x : Int32) : Int32 := nv_po k n x - 2 * nI b
def nv_dr (k n b : Nat) (x : Int32) : Int32 := if k = 2 ∨ k = 3 then nv_dp k n b x * 3 else if k = 5 then 0 - nv_dp k n b x else nv_dp k n b x
def nt_dr (k : Nat) : List Nat := (if k = 2 ∨ k = 3 then [30] else if k = 5 then [60] else []) ++ 11 :: nt_po k
def nv_gp (n b : Nat) (x : Int32) : Int32 := x / (nI n - nI b + 3)
def nv_gl (k n b : Nat) (x : Int32) : Int32 := if k = 4 then nv_gp n b x - 1 else if k = 5 then (nv_gp n b x - 1) ^^^ nv_po k n (nI n) else nv_gp n b x
def nt_gl (k : Nat) (p : Bool) : List Nat := if k = 4 then [40, 12] else if k = 5 then [61, 40, 12] ++ (if p then [] else nt_po k) else [12]
def nv_lp (k n b : Nat) (x : Int32) : Int32 := nv_dr k n b x - nv_gl k n b x
def nt_lp (k : Nat) (p : Bool) : List Nat := 13 :: (nt_dr k ++ nt_gl k p)
def nv_lv (k n b : Nat) (x : Int32) : Int32 := if k = 3 then nv_lp k n b x + nv_dr k n b (nI b) else nv_lp k n b x
def nt_lv (k : Nat) (p : Bool) : List Nat := if k = 3 then 51 :: (nt_lp k p ++ (if p then [] else nt_dr k)) else nt_lp k p
def nz_pz (n b : Nat) : Bool := decide (b = n + 3)
theorem nz_pz_i : ∀ n, n < 6 → ∀ b, b < 6 → ((nI n - nI b) + (3 : Int32) = 0 ↔ b = n + 3) := by decide +kernel
theorem nz_pz_t {n b : Nat} (hn : n < 6) (hb : b < 6) : (nI n - nI b) + (3 : Int32) = 0 ↔ nz_pz n b = true := by
  rw [nz_pz_i n hn b hb]; unfold nz_pz; rw [decide_eq_true_eq]
def nz_TM (I : ny_I) (k n b : Nat) (tr : nz_tr) (p : Bool) : Prop := (I 102 35 = nI (min 30 tr.1) ∧ ∀ j, j < min 30 tr.1 → I 119 j = nI (tr.2 j)) ∧ I 102 36 = nI k ∧ I 102 37 = nI n ∧ I 102 38 = nI b ∧ I 102 39 = if p then nI 1 else nI 0
def nz_tf (I' I : ny_I) : Prop := (∀ c, c ≠ 102 → c ≠ 119 → I' c = I c) ∧ ∀ j, j < 35 → I' 102 j = I 102 j
theorem nz_tf_r (I : ny_I) : nz_tf I I := ⟨fun _ _ _ => rfl, fun _ _ => rfl⟩
theorem nz_tf_t {I1 I2 I3 : ny_I} (h : nz_tf I1 I2) (h2 : nz_tf I2 I3) : nz_tf I1 I3 := ⟨fun c x y => (h.1 c x y).trans (h2.1 c x y), fun j x => (h.2 j x).trans (h2.2 j x)⟩
section NZAC
variable {d Ln : Nat} {I : ny_I} {Q : Int32 → ny_I → Prop} {Q0 : ny_I → Prop} {k n b : Nat} {tr : nz_tr} {p : Bool}
theorem q_Md_runs {x : Nat} (hT : nz_TM I k n b tr p) (h : ∀ I', nz_tf I' I → nz_TM I' k n b (nz_p1 tr x) p → Q0 I') : ny_C0 d m_Md_runs [.ref 102, .int (nI x)] Ln I Q0 := by
  obtain ⟨⟨t1, t2⟩, t3, t4, t5, t6⟩ := hT
  refine s_Md_runs_0 ?_
  rw [t1]
  simp (disch := omega) only [ny_lit, nI_add, ny_mul, nI_clamp, ny_le, ny_lt, ny_eq, ny_div, ny_rem, ny_rem2, ny_inN]
  refine ⟨fun c => h I (nz_tf_r I) ⟨⟨?_, fun j hj => ?_⟩, t3, t4, t5, t6⟩, fun c => ⟨ny_inN (by omega) (by decide), ?_⟩⟩
  · rw [t1]; show nI (min 30 tr.1) = nI (min 30 (tr.1 + 1)); congr 1; omega
  · have hj : j < min 30 (tr.1 + 1) := hj
    show I 119 j = nI (if j = tr.1 then x else tr.2 j)
    rw [if_neg (by omega)]; exact t2 j (by omega)
  · rw [show ny_up I 119 (min 30 tr.1) (nI x) 102 35 = nI (min 30 tr.1) by rw [ny_upne _ (by decide)]; exact t1, nI_add]
    refine h _ ⟨fun c x y => by rw [ny_upne _ x, ny_upne _ y], fun j hj => ?_⟩ ⟨⟨?_, fun j hj => ?_⟩, ?_, ?_, ?_, ?_⟩
    · simp (disch := omega) only [ny_uprd, if_neg]
    · simp (disch := omega) only [ny_uprd, if_true, and_self]
      show nI (min 30 tr.1 + 1) = nI (min 30 (tr.1 + 1)); congr 1; omega
    · have hj : j < min 30 (tr.1 + 1) := hj
      show _ = nI (if j = tr.1 then x else tr.2 j)
      rw [ny_upne _ (by decide), ny_upeq]
      unfold upd
      by_cases e : j = tr.1
      · rw [if_pos (by omega), if_pos e]
      · rw [if_neg (by omega), if_neg e]; exact t2 j (by omega)
    · simp (disch := omega) only [ny_uprd, if_neg]; exact t3
    · simp (disch := omega) only [ny_uprd, if_neg]; exact t4
    · simp (disch := omega) only [ny_uprd, if_neg]; exact t5
    · simp (disch := omega) only [ny_uprd, if_neg]; exact t6
theorem q_Md_posesPlain {x : Int32} (hT : nz_TM I k n b tr p) (h : ∀ I', nz_tf I' I → nz_TM I' k n b (nz_p1 tr 10) p → Q (x * 3 + nI n) I') : ny_C1 (d + 1) m_Md_posesPlain [.ref 102, .int x] Ln I Q :=
  s_Md_posesPlain_0 (q_Md_runs (x := 10) hT fun I' hF hT' => by rw [hT'.2.2.1]; exact h I' hF hT')
theorem q_Md_poses {x : Int32} (hT : nz_TM I k n b tr p) (hk : k ≤ 5) (h : ∀ I', nz_tf I' I → nz_TM I' k n b (nz_pu tr (nt_po k)) p → Q (nv_po k n x) I') : ny_C1 (d + 2) m_Md_poses [.ref 102, .int x] Ln I Q := by
  unfold nv_po nt_po at h
  refine s_Md_poses_0 ?_
  have f1 : nI k = (1 : Int32) ↔ k = 1 := ny_eq (by omega) (by decide)
  have f3 : nI k = (3 : Int32) ↔ k = 3 := ny_eq (by omega) (by decide)
  rw [hT.2.1, f1, f3]
  refine ⟨fun c1 => ⟨fun c3 => q_Md_posesPlain (d := d) hT fun I' hF hT' => ?_, fun c3 => q_Md_runs (x := 50) hT fun I1 hF1 hT1 => q_Md_posesPlain (d := d) hT1 fun I' hF hT' => ?_⟩, fun c1 => q_Md_runs (x := 20) hT fun I1 hF1 hT1 => q_Md_posesPlain (d := d) hT1 fun I' hF hT' => ?_⟩
  · have := h I' hF
    simp only [if_neg c1, if_neg c3] at this
    exact this hT'
  · have := h I' (nz_tf_t hF hF1)
    simp only [if_neg c1, if_pos c3] at this
    exact this hT'
  · have := h I' (nz_tf_t hF hF1)
    simp only [if_pos c1] at this
    exact this hT'
theorem q_Md_dripsPlain {x : Int32} (hT : nz_TM I k n b tr p) (hk : k ≤ 5) (h : ∀ I', nz_tf I' I → nz_TM I' k n b (nz_pu tr (11 :: nt_po k)) p → Q (nv_dp k n b x) I') : ny_C1 (d + 3) m_Md_dripsPlain [.ref 102, .int x] Ln I Q :=
  s_Md_dripsPlain_0 (q_Md_runs (x := 11) hT fun I1 hF1 hT1 => q_Md_poses (d := d) hT1 hk fun I' hF hT' => by rw [hT'.2.2.2.1]; exact h I' (nz_tf_t hF hF1) hT')
theorem q_Md_drips {x : Int32} (hT : nz_TM I k n b tr p) (hk : k ≤ 5) (h : ∀ I', nz_tf I' I → nz_TM I' k n b (nz_pu tr (nt_dr k)) p → Q (nv_dr k n b x) I') : ny_C1 (d + 4) m_Md_drips [.ref 102, .int x] Ln I Q := by
  unfold nv_dr nt_dr at h
  have h16 : k = 2 ∨ k = 3 → ny_g (d + 4) m_Md_drips 16 [(0, .ref 102), (1, .int x)] [] Ln I (ny_r1 Ln Q) := by
    intro c
    refine s_Md_drips_16 (q_Md_runs (x := 30) hT fun I1 hF1 hT1 => q_Md_dripsPlain (d := d) hT1 hk fun I' hF hT' => ?_)
    have := h I' (nz_tf_t hF hF1)
    simp only [if_pos c] at this
    exact this hT'
  refine s_Md_drips_0 ?_
  have f2 : nI k = (2 : Int32) ↔ k = 2 := ny_eq (by omega) (by decide)
  have f3 : nI k = (3 : Int32) ↔ k = 3 := ny_eq (by omega) (by decide)
  have f5 : nI k = (5 : Int32) ↔ k = 5 := ny_eq (by omega) (by decide)
  rw [hT.2.1, f2, f3, f5]
  refine ⟨fun c => h16 (Or.inl c), fun c2 => ⟨fun c3 => ⟨fun c5 => q_Md_dripsPlain (d := d) hT hk fun I' hF hT' => ?_, fun c5 => q_Md_runs (x := 60) hT fun I1 hF1 hT1 => q_Md_dripsPlain (d := d) hT1 hk fun I' hF hT' => ?_⟩, fun c3 => h16 (Or.inr c3)⟩⟩
  · have := h I' hF
    simp only [if_neg (show ¬ (k = 2 ∨ k = 3) by omega), if_neg c5] at this
    exact this hT'
  · have := h I' (nz_tf_t hF hF1)
    simp only [if_neg (show ¬ (k = 2 ∨ k = 3) by omega), if_pos c5] at this
    exact this hT'
theorem q_Md_glancesPlain {x : Int32} (hT : nz_TM I k n b tr false) (hn : n < 6) (hb : b < 6) (h : ∀ I' v, nz_tf I' I → nz_TM I' k n b (nz_p1 tr 12) (nz_pz n b) → (nz_pz n b = false → v = nv_gp n b x) → Q v I') : ny_C1 (d + 1) m_Md_glancesPlain [.ref 102, .int x] Ln I Q := by
  refine s_Md_glancesPlain_0 (q_Md_runs (x := 12) hT fun I1 hF1 hT1 => ?_)
  obtain ⟨⟨t1, t2⟩, t3, t4, t5, t6⟩ := hT1
  have hz := nz_pz_t hn hb
  rw [t4, t5, t6]
  simp (disch := omega) only [ny_uprd, if_true, and_self]
  have up : ∀ (y : Bool), nz_pz n b = y → nz_TM (ny_up I1 102 39 (if y then nI 1 else nI 0)) k n b (nz_p1 tr 12) (nz_pz n b) ∧ nz_tf (ny_up I1 102 39 (if y then nI 1 else nI 0)) I := by
    intro y ey
    refine ⟨⟨⟨?_, fun j hj => ?_⟩, ?_, ?_, ?_, ?_⟩, ⟨fun c x z => by rw [ny_upne _ x]; exact hF1.1 c x z, fun j hj => ?_⟩⟩
    · simp (disch := omega) only [ny_uprd, if_neg]; exact t1
    · rw [ny_upne _ (by decide)]; exact t2 j hj
    · simp (disch := omega) only [ny_uprd, if_neg]; exact t3
    · simp (disch := omega) only [ny_uprd, if_neg]; exact t4
    · simp (disch := omega) only [ny_uprd, if_neg]; exact t5
    · rw [ny_upeq, ey]; rfl
    · simp (disch := omega) only [ny_uprd, if_neg]; exact hF1.2 j hj
  refine ⟨fun q => absurd rfl q, fun _ => ⟨fun c => ⟨fun _ => ⟨?_, ?_⟩, fun q => absurd trivial q⟩, fun c => ⟨fun q => absurd q (by decide), fun _ => ?_⟩⟩⟩
  · simp only [c, decide_false, Bool.not_false]
  · have cf : nz_pz n b = false := by
      cases e : nz_pz n b with
      | false => rfl
      | true => exact absurd (hz.mpr e) c
    obtain ⟨u1, u2⟩ := up false cf
    exact h _ _ u2 u1 (fun _ => rfl)
  · have c := hz.mp c
    obtain ⟨u1, u2⟩ := up true c
    exact h _ _ u2 u1 (fun q => by rw [c] at q; cases q)
theorem q_Md_novice {x : Int32} (hT : nz_TM I k n b tr false) (hn : n < 6) (hb : b < 6) (h : ∀ I' v, nz_tf I' I → nz_TM I' k n b (nz_pu tr [40, 12]) (nz_pz n b) → (nz_pz n b = false → v = nv_gp n b x - 1) → Q v I') : ny_C1 (d + 2) m_Md_glancesOfNovice [.ref 102, .int x] Ln I Q :=
  s_Md_glancesOfNovice_0 (q_Md_runs (x := 40) hT fun I1 hF1 hT1 => q_Md_glancesPlain (d := d) hT1 hn hb fun I' v hF hT' hv => h I' _ (nz_tf_t hF hF1) hT' fun q => by rw [hv q])
theorem q_Md_glances {x : Int32} (hT : nz_TM I k n b tr false) (hk : k ≤ 5) (hn : n < 6) (hb : b < 6) (h : ∀ I' v, nz_tf I' I → nz_TM I' k n b (nz_pu tr (nt_gl k (nz_pz n b))) (nz_pz n b) → (nz_pz n b = false → v = nv_gl k n b x) → Q v I') : ny_C1 (d + 3) m_Md_glances [.ref 102, .int x] Ln I Q := by
  unfold nv_gl nt_gl at h
  refine s_Md_glances_0 ?_
  have f4 : nI k = (4 : Int32) ↔ k = 4 := ny_eq (by omega) (by decide)
  have f5 : nI k = (5 : Int32) ↔ k = 5 := ny_eq (by omega) (by decide)
  rw [hT.2.1, f4, f5]
  refine ⟨fun c4 => ⟨fun c5 => q_Md_runs (x := 61) hT fun I1 hF1 hT1 => q_Md_novice (d := d) hT1 hn hb fun I2 v hF2 hT2 hv => ?_, fun c5 => q_Md_glancesPlain (d := d + 1) hT hn hb fun I' v hF hT' hv => ?_⟩, fun c4 => q_Md_novice (d := d) hT hn hb fun I' v hF hT' hv => ?_⟩
  · have h39 : I2 102 39 = if nz_pz n b then nI 1 else nI 0 := hT2.2.2.2.2
    rw [h39, hT2.2.2.1]
    cases e : nz_pz n b with
    | true =>
      refine ⟨fun q => absurd q (by decide), fun _ => ?_⟩
      have := h I2 0 (nz_tf_t hF2 hF1)
      simp only [if_neg c4, if_pos c5, e] at this hT2
      exact this (by rw [nz_pu_c] at hT2; exact hT2) (fun q => by cases q)
    | false =>
      refine ⟨fun _ => q_Md_poses (d := d) hT2 hk fun I' hF hT' => ?_, fun q => absurd rfl q⟩
      have := h I' (v ^^^ nv_po k n (nI n)) (nz_tf_t hF (nz_tf_t hF2 hF1))
      simp only [if_neg c4, if_pos c5, e] at this hT'
      refine this ?_ (fun _ => by rw [hv e])
      rw [nz_pu_c, ← nz_pu_a] at hT'
      exact hT'
  · have := h I' v hF
    simp only [if_neg c4, if_neg c5] at this
    exact this hT' hv
  · have := h I' v hF
    simp only [if_pos c4] at this
    exact this hT' hv
theorem q_Md_leavesPlain {x : Int32} (hT : nz_TM I k n b tr false) (hk : k ≤ 5) (hn : n < 6) (hb : b < 6) (h : ∀ I' v, nz_tf I' I → nz_TM I' k n b (nz_pu tr (nt_lp k (nz_pz n b))) (nz_pz n b) → (nz_pz n b = false → v = nv_lp k n b x) → Q v I') : ny_C1 (d + 5) m_Md_leavesPlain [.ref 102, .int x] Ln I Q := by
  refine s_Md_leavesPlain_0 (q_Md_runs (x := 13) hT fun I1 hF1 hT1 => q_Md_drips (d := d) hT1 hk fun I2 hF2 hT2 => q_Md_glances (d := d + 1) hT2 hk hn hb fun I' v hF hT' hv => h I' _ (nz_tf_t hF (nz_tf_t hF2 hF1)) ?_ fun q => by rw [hv q]; rfl)
  rw [nz_pu_c, ← nz_pu_a] at hT'
  exact hT'
theorem q_Md_leaves {x : Int32} (hT : nz_TM I k n b tr false) (hk : k ≤ 5) (hn : n < 6) (hb : b < 6) (h : ∀ I' v, nz_tf I' I → nz_TM I' k n b (nz_pu tr (nt_lv k (nz_pz n b))) (nz_pz n b) → (nz_pz n b = false → v = nv_lv k n b x) → Q v I') : ny_C1 (d + 6) m_Md_leaves [.ref 102, .int x] Ln I Q := by
  unfold nv_lv nt_lv at h
  refine s_Md_leaves_0 ?_
  have f3 : nI k = (3 : Int32) ↔ k = 3 := ny_eq (by omega) (by decide)
  rw [hT.2.1, f3]
  refine ⟨fun c3 => q_Md_runs (x := 51) hT fun I1 hF1 hT1 => q_Md_leavesPlain (d := d) hT1 hk hn hb fun I2 v hF2 hT2 hv => ?_, fun c3 => q_Md_leavesPlain (d := d) hT hk hn hb fun I' v hF hT' hv => ?_⟩
  · have h39 : I2 102 39 = if nz_pz n b then nI 1 else nI 0 := hT2.2.2.2.2
    rw [h39, hT2.2.2.2.1]
    cases e : nz_pz n b with
    | true =>
      refine ⟨fun q => absurd q (by decide), fun _ => ?_⟩
      have := h I2 0 (nz_tf_t hF2 hF1)
      simp only [if_pos c3, e, if_true, List.append_nil] at this hT2
      exact this (by rw [nz_pu_c] at hT2; exact hT2) (fun q => by cases q)
    | false =>
      refine ⟨fun _ => q_Md_drips (d := d + 1) hT2 hk fun I' hF hT' => ?_, fun q => absurd rfl q⟩
      have := h I' (v + nv_dr k n b (nI b)) (nz_tf_t hF (nz_tf_t hF2 hF1))
      simp only [if_pos c3, e] at this hT'
      refine this ?_ (fun _ => by rw [hv e])
      rw [nz_pu_c, ← nz_pu_a] at hT'
      exact hT'
  · have := h I' v hF
    simp only [if_neg c3] at this
    exact this hT' hv
end NZAC
