/-! both: sheets -/
/-- of each sheet: its sort (5: missing), how many, its items -/
abbrev nz_sh : Type := (Nat → Nat) × (Nat → Nat) × (Nat → Nat → Int32)
def nz_sv (n : Nat) : Int32 := if n = 5 then nI 4294967295 else nI n
def nz_SV (s : nz_sh) : Prop := ∀ t, t < 4 → s.1 t ≤ 5 ∧ s.2.1 t ≤ 40
def ny_SM (I : ny_I) (s : nz_sh) : Prop := ∀ t, t < 4 → I 113 t = nz_sv (s.1 t) ∧ I 114 t = nI (s.2.1 t) ∧ ∀ i, i < 40 → I 115 (40 * t + i) = s.2.2 t i
def ny_SC (I : ny_I) (s : nz_sh) : Prop := ∀ t, t < 4 → I (90 + 2 * t) 0 = nz_sv (s.1 t) ∧ I (90 + 2 * t) 1 = nI (s.2.1 t) ∧ ∀ i, i < 40 → I (91 + 2 * t) i = s.2.2 t i
def nz_ss (s : nz_sh) (t w n : Nat) : nz_sh := (fun q => if q = t then w else s.1 q, fun q => if q = t then n else s.2.1 q, fun q i => if q = t then 0 else s.2.2 q i)
def nz_si (s : nz_sh) (t i : Nat) (v : Int32) : nz_sh := (s.1, s.2.1, fun q j => if q = t ∧ j = i then v else s.2.2 q j)
def nz_nar (w : Nat) (v : Int32) : Int32 := if w = 0 then v.toInt8.toInt32 else if w = 1 then v.toInt16.toInt32 else if w = 4 then (if v = 0 then nI 0 else nI 1) else v
def o_sheet (x y z : Int32) (s : nz_sh) : Int32 × nz_sh := match nz_in 0 3 x with
  | none => (nI 4294967295, s)
  | some t => if y = nI 4294967295 then (nI 1, nz_ss s t 5 0) else match nz_in 0 4 y with
    | none => (nI 4294967295, s)
    | some w => if nI 40 < z then (nI 4294967295, s) else if z < 0 then (nI 4294967282, s) else (nI 1, nz_ss s t w z.toNatClampNeg)
def o_write (x y v : Int32) (s : nz_sh) : Int32 × nz_sh := match nz_in 0 3 x with
  | none => (nI 4294967295, s)
  | some t => if s.1 t = 5 then (nI 4294967285, s) else match nz_bl (s.2.1 t) y with
    | none => (nI 4294967284, s)
    | some i => (nI 1, nz_si s t i (nz_nar (s.1 t) v))
def o_item (x y z : Int32) (s : nz_sh) : Int32 := match nz_in 0 3 x, nz_in 0 4 y with
  | some t, some w => if s.1 t = 5 then nI 4294967285 else if s.1 t = w then (match nz_bl (s.2.1 t) z with
    | none => nI 4294967284
    | some i => s.2.2 t i) else nI 4294967283
  | _, _ => nI 4294967295
theorem ny_m14 : (-14 : Int32) = nI 4294967282 := by decide +kernel
theorem ny_m13 : (-13 : Int32) = nI 4294967283 := by decide +kernel
theorem ny_m12 : (-12 : Int32) = nI 4294967284 := by decide +kernel
theorem ny_m11 : (-11 : Int32) = nI 4294967285 := by decide +kernel
theorem nz_sv_1 {n : Nat} (h : n ≤ 5) : nz_sv n = nI 4294967295 ↔ n = 5 := by
  unfold nz_sv
  by_cases c : n = 5
  · rw [if_pos c]; exact ⟨fun _ => c, fun _ => rfl⟩
  · rw [if_neg c]; exact ⟨fun q => absurd q (nz_neg rfl (by omega)), fun q => absurd q c⟩
theorem nz_sv_n {n w : Nat} (h : n ≤ 5) (hw : w ≤ 4) : nz_sv n = nI w ↔ n = w := by
  unfold nz_sv
  by_cases c : n = 5
  · rw [if_pos c]; exact ⟨fun q => absurd q.symm (nz_neg rfl (by omega)), fun q => by omega⟩
  · rw [if_neg c]; exact ny_eq (by omega) (by omega)
theorem nz_sv_0 {n : Nat} (h : n ≤ 5) : 0 ≤ nz_sv n ↔ n ≠ 5 := by
  unfold nz_sv
  by_cases c : n = 5
  · rw [if_pos c]
    exact ⟨fun q => absurd q (by decide +kernel), fun q => absurd c q⟩
  · rw [if_neg c]; exact ⟨fun _ => c, fun _ => nI_pos' (by omega)⟩
theorem nz_ss_V {s : nz_sh} {t w n : Nat} (h : nz_SV s) (hw : w ≤ 5) (hn : n ≤ 40) : nz_SV (nz_ss s t w n) := by
  intro q hq
  have := h q hq
  refine ⟨?_, ?_⟩
  · show (if q = t then w else s.1 q) ≤ 5
    split <;> omega
  · show (if q = t then n else s.2.1 q) ≤ 40
    split <;> omega
theorem nz_ss_M {I I' : ny_I} {s : nz_sh} {t w n : Nat} (ht : t < 4) (h : ny_SM I s) (h3 : ∀ q, I' 113 q = if q = t then nz_sv w else I 113 q) (h4 : ∀ q, I' 114 q = if q = t then nI n else I 114 q) (h5 : ∀ q, q < 4 → ∀ i, i < 40 → I' 115 (40 * q + i) = if q = t then 0 else I 115 (40 * q + i)) : ny_SM I' (nz_ss s t w n) := by
  intro q hq
  obtain ⟨g1, g2, g3⟩ := h q hq
  rw [h3, h4]
  by_cases c : q = t
  · simp only [if_pos c, nz_ss]
    exact ⟨trivial, trivial, fun i hi => by rw [h5 q hq i hi, if_pos c]⟩
  · simp only [if_neg c, nz_ss]
    exact ⟨g1, g2, fun i hi => by rw [h5 q hq i hi, if_neg c]; exact g3 i hi⟩
section NZSH
variable {d Ln : Nat} {I : ny_I} {Q : Int32 → ny_I → Prop} {Q0 : ny_I → Prop} {a : ny_a} {s : nz_sh}
theorem q_Md_isSheet {x : Int32} (h1 : ∀ m, nz_in 0 3 x = some m → m ≤ 3 → x = nI m → Q (nI 1) I) (h0 : nz_in 0 3 x = none → Q (nI 0) I) : ny_C1 (d + 1) m_Md_isSheet [.int x] Ln I Q :=
  s_Md_isSheet_0 (q_Md_I 0 3 rfl rfl (by decide) (by decide) (fun m e _ hm ex => ⟨Or.inr rfl, h1 m e hm ex⟩) fun e => ⟨Or.inl rfl, h0 e⟩)
theorem q_Md_isShelf {x : Int32} (h1 : ∀ m, nz_in 0 3 x = some m → m ≤ 3 → x = nI m → Q (nI 1) I) (h0 : nz_in 0 3 x = none → Q (nI 0) I) : ny_C1 (d + 1) m_Md_isShelf [.int x] Ln I Q :=
  s_Md_isShelf_0 (q_Md_I 0 3 rfl rfl (by decide) (by decide) (fun m e _ hm ex => ⟨Or.inr rfl, h1 m e hm ex⟩) fun e => ⟨Or.inl rfl, h0 e⟩)
theorem q_Md_in45 {y : Int32} (h1 : y = nI 4294967295 → Q (nI 1) I) (h2 : ∀ w, nz_in 0 4 y = some w → w ≤ 4 → y = nI w → Q (nI 1) I) (h0 : y ≠ nI 4294967295 → nz_in 0 4 y = none → Q (nI 0) I) : ny_C1 d m_Md_isIn [.long y.toInt64, .long (-1 : Int64), .long (4 : Int64)] Ln I Q := by
  have e1 : (-1 : Int64).toInt = -1 := by decide +kernel
  have e4 : (4 : Int64).toInt = 4 := by decide +kernel
  have en : (nI 4294967295).toInt = -1 := by decide +kernel
  refine q_Md_isIn (fun c1 c2 => ?_) fun c => ?_
  · rw [Int64.le_iff_toInt_le, e1, Int32.toInt_toInt64] at c1
    rw [Int64.le_iff_toInt_le, e4, Int32.toInt_toInt64] at c2
    by_cases c : y = nI 4294967295
    · exact h1 c
    · have hy : ¬ y.toInt = -1 := fun q => c (Int32.toInt_inj.mp (q.trans en.symm))
      obtain ⟨j, hj, rfl⟩ := nI_of (x := y) (fun q => by
        rw [Int32.lt_iff_toInt_lt] at q
        have : (0 : Int32).toInt = 0 := by decide
        omega)
      rw [nI_toInt hj] at c2
      exact h2 j (nz_in_s (by decide) (by decide) (by omega) (by omega) rfl) (by omega) rfl
  · refine h0 (fun q => c ?_) (nz_in_n (by decide) (by decide) fun m _ hm e => c ?_)
    · rw [q, Int64.le_iff_toInt_le, Int64.le_iff_toInt_le, e1, e4, Int32.toInt_toInt64, en]; omega
    · rw [e, Int64.le_iff_toInt_le, Int64.le_iff_toInt_le, e1, e4, Int32.toInt_toInt64, nI_toInt (by omega)]; omega
theorem q_Md_sheet44 {t w n : Nat} {y z : Int32} (hM : ny_SM I s) (ht : t < 4) (ey : y = nz_sv w) (hw : w ≤ 5) (ez : w = 5 ∧ n = 0 ∨ w ≠ 5 ∧ z = nI n) (hn : n ≤ 40) (h : ∀ I', (∀ c, c ≠ 113 → c ≠ 114 → c ≠ 115 → I' c = I c) → ny_SM I' (nz_ss s t w n) → Q (nI 1) I') :
    ny_g (d + 2) m_Md_sheet 44 [(0, .ref 102), (1, .int (nI t)), (2, .int y), (3, .int z)] [] Ln I (ny_r1 Ln Q) := by
  have key : ∀ (I0 : ny_I), (∀ c, c ≠ 113 → c ≠ 114 → I0 c = I c) → (∀ q, I0 113 q = if q = t then nz_sv w else I 113 q) → (∀ q, I0 114 q = if q = t then nI n else I 114 q) → ∀ m k (I1 : ny_I), k + m = 40 → (∀ c, c ≠ 115 → I1 c = I0 c) → (∀ q, I1 115 q = if 40 * t ≤ q ∧ q < 40 * t + k then 0 else I 115 q) → ny_g (d + 2) m_Md_sheet 69 [(0, .ref 102), (1, .int (nI t)), (4, .int (nI k))] [] Ln I1 (ny_r1 Ln Q) := by
    intro I0 h0 h3 h4 m
    induction m with
    | zero =>
      intro k I1 hk hc h5
      refine s_Md_sheet_69 ?_
      simp (disch := omega) only [ny_lit, nI_add, ny_mul, nI_clamp, ny_le, ny_lt, ny_eq, ny_div, ny_rem, ny_rem2, ny_inN]
      refine ⟨fun _ => h I1 (fun c x y z => by rw [hc c z, h0 c x y]) (nz_ss_M ht hM (fun q => by rw [hc 113 (by decide)]; exact h3 q) (fun q => by rw [hc 114 (by decide)]; exact h4 q) fun q hq i hi => ?_), fun q => absurd q (by omega)⟩
      rw [h5]
      by_cases c : q = t
      · rw [if_pos (by omega), if_pos c]
      · rw [if_neg (by omega), if_neg c]
    | succ m ih =>
      intro k I1 hk hc h5
      refine s_Md_sheet_69 ?_
      simp (disch := omega) only [ny_lit, nI_add, ny_mul, nI_clamp, ny_le, ny_lt, ny_eq, ny_div, ny_rem, ny_rem2, ny_inN, true_and]
      refine ⟨fun q => absurd q (by omega), fun _ => ih (k + 1) _ (by omega) (fun c x => by rw [ny_upne _ x]; exact hc c x) fun q => ?_⟩
      rw [ny_upeq]
      unfold upd
      by_cases c : q = 40 * t + k
      · rw [if_pos c, if_pos (by omega)]; rfl
      · rw [if_neg c, h5]
        by_cases c2 : 40 * t ≤ q ∧ q < 40 * t + k
        · rw [if_pos c2, if_pos (by omega)]
        · rw [if_neg c2, if_neg (by omega)]
  refine s_Md_sheet_44 ?_
  rw [ey, nz_sv_0 hw]
  have e0 : Int32.toNatClampNeg 0 = 0 := rfl
  rw [nI_clamp (by omega), ny_inN (by omega) (by decide)]
  refine ⟨rfl, fun c => ⟨rfl, ?_⟩, fun c => ⟨rfl, ?_⟩⟩
  · rcases ez with ez | ez
    · exact absurd ez.1 c
    · rw [ez.2]
      exact key _ (fun c x y => by rw [ny_upne _ y, ny_upne _ x]) (fun q => by rw [ny_upne _ (by decide), ny_upeq]; rfl) (fun q => by rw [ny_upeq, ny_upne _ (by decide)]; rfl) 40 0 _ rfl (fun _ _ => rfl) (fun q => by rw [ny_upne _ (by decide), ny_upne _ (by decide), if_neg (by omega)])
  · have n0 : n = 0 := by
      rcases ez with ez | ez
      · exact ez.2
      · exact absurd ez.1 c
    subst n0
    exact key _ (fun c x y => by rw [ny_upne _ y, ny_upne _ x]) (fun q => by rw [ny_upne _ (by decide), ny_upeq]; rfl) (fun q => by rw [ny_upeq, ny_upne _ (by decide)]; rfl) 40 0 _ rfl (fun _ _ => rfl) (fun q => by rw [ny_upne _ (by decide), ny_upne _ (by decide), if_neg (by omega)])
theorem q_Md_sheet {x y z : Int32} (hM : ny_SM I s) (h : ∀ I', (∀ c, c ≠ 113 → c ≠ 114 → c ≠ 115 → I' c = I c) → ny_SM I' (o_sheet x y z s).2 → Q (o_sheet x y z s).1 I') : ny_C1 (d + 2) m_Md_sheet [.ref 102, .int x, .int y, .int z] Ln I Q := by
  have no : ∀ v, o_sheet x y z s = (v, s) → Q v I := fun v e => by
    rw [e] at h; exact h I (fun _ _ _ _ => rfl) hM
  refine s_Md_sheet_0 (q_Md_isSheet (fun t et ht ex => ⟨fun q => absurd q (by decide), fun _ => q_Md_in45 (fun ey => ⟨fun q => absurd q (by decide), fun _ => ?_⟩) (fun w ew hw ey => ⟨fun q => absurd q (by decide), fun _ => ?_⟩) fun ey ew => ⟨fun _ => ?_, fun q => absurd rfl q⟩⟩) fun et => ⟨fun _ => ?_, fun q => absurd rfl q⟩)
  · have yn : y < 0 := by rw [ey]; decide +kernel
    simp only [o_sheet, et, if_pos ey] at h
    subst ex
    have := q_Md_sheet44 (d := d) (Ln := Ln) (Q := Q) (w := 5) (n := 0) (z := z) hM (by omega) ey (by decide) (Or.inl ⟨rfl, rfl⟩) (by decide) h
    exact ⟨fun _ => ⟨fun _ => this, fun q => absurd yn q⟩, fun q => absurd yn q⟩
  · have yn : ¬ y < 0 := by rw [ey]; exact nI_pos (by omega)
    have y1 : ¬ y = nI 4294967295 := nz_neg ey (by omega)
    refine ⟨fun q => absurd q yn, fun _ => ⟨fun c => ⟨fun q => absurd q yn, fun _ => ⟨fun c2 => ?_, fun c2 => ?_⟩⟩, fun c => ?_⟩⟩
    · obtain ⟨j, hj, rfl⟩ := nI_of (Int32.not_lt.mpr c2)
      have c' : j ≤ 40 := (ny_le hj (by decide)).mp c
      simp only [o_sheet, et, if_neg y1, ew, if_neg (show ¬ nI 40 < nI j from Int32.not_lt.mpr c), if_neg (show ¬ nI j < 0 from Int32.not_lt.mpr c2), nI_clamp hj] at h
      subst ex
      exact q_Md_sheet44 (d := d) (w := w) (n := j) hM (by omega) (by rw [ey, nz_sv, if_neg (by omega)]) (by omega) (Or.inr ⟨by omega, rfl⟩) c' h
    · rw [ny_m14]
      refine no _ ?_
      simp only [o_sheet, et, if_neg y1, ew, if_neg (show ¬ nI 40 < z from Int32.not_lt.mpr c), if_pos (show z < 0 from Int32.not_le.mp c2)]
    · rw [ny_m1]
      refine no _ ?_
      simp only [o_sheet, et, if_neg y1, ew, if_pos (show nI 40 < z from Int32.not_le.mp c)]
  · rw [ny_m1]
    refine no _ ?_
    simp only [o_sheet, et, if_neg ey, ew]
  · rw [ny_m1]
    refine no _ ?_
    simp only [o_sheet, et]
theorem q_Md_lacks {t w : Nat} (hM : ny_SM I s) (hV : nz_SV s) (ht : t < 4) (hw : w ≤ 4) (h : Q (if s.1 t = 5 then nI 4294967285 else if s.1 t = w then nI 0 else nI 4294967283) I) : ny_C1 d m_Md_lacks [.ref 102, .int (nI t), .int (nI w)] Ln I Q := by
  have v := (hV t ht).1
  refine s_Md_lacks_0 ?_
  rw [nI_clamp (by omega), (hM t ht).1, nz_sv_0 v, nz_sv_n v hw, ny_inN ht (by decide)]
  refine ⟨rfl, fun c => ⟨rfl, fun c2 => ?_, fun c2 => ?_⟩, fun c => ?_⟩
  · rw [if_neg c, if_pos c2] at h; exact h
  · rw [if_neg c, if_neg c2] at h; rw [ny_m13]; exact h
  · rw [if_pos (by omega)] at h; rw [ny_m11]; exact h
theorem q_Md_item {x y z : Int32} (hM : ny_SM I s) (hV : nz_SV s) (h : Q (o_item x y z s) I) : ny_C1 (d + 2) m_Md_item [.ref 102, .int x, .int y, .int z] Ln I Q := by
  refine s_Md_item_0 (q_Md_isSheet (fun t et ht ex => ⟨fun q => absurd q (by decide), fun _ => q_Md_I 0 4 rfl rfl (by decide) (by decide) (fun w ew _ hw ey => ⟨fun _ => ?_, fun q => absurd q (by decide)⟩) (fun ew => ⟨fun q => absurd rfl q, fun _ => ?_⟩)⟩) fun et => ⟨fun _ => ?_, fun q => absurd rfl q⟩)
  · simp only [o_item, et, ew] at h
    subst ex ey
    have v := hV t (by omega)
    refine q_Md_lacks hM hV (by omega) hw ?_
    by_cases c : s.1 t = 5
    · rw [if_pos c] at h ⊢
      refine ⟨fun q => absurd q (by decide +kernel), fun _ => q_Md_lacks hM hV (by omega) hw ?_⟩
      rw [if_pos c]; exact h
    · rw [if_neg c] at h ⊢
      by_cases c2 : s.1 t = w
      · rw [if_pos c2] at h ⊢
        refine ⟨fun _ => ⟨ny_inN (by omega) (by decide), ?_⟩, fun q => absurd rfl q⟩
        rw [nI_clamp (by omega), (hM t (by omega)).2.1]
        refine q_Md_inL rfl rfl (by omega) (fun i ei hi ez => ⟨fun q => absurd q (by decide), fun _ => ?_⟩) (fun ei => ⟨fun _ => ?_, fun q => absurd rfl q⟩)
        · simp only [ei] at h
          subst ez
          simp (disch := omega) only [ny_lit, nI_add, ny_mul, nI_clamp, ny_le, ny_lt, ny_eq, ny_div, ny_rem, ny_rem2, ny_inN, true_and]
          rw [(hM t (by omega)).2.2 i (by omega)]; exact h
        · simp only [ei] at h
          rw [ny_m12]; exact h
      · rw [if_neg c2] at h ⊢
        refine ⟨fun q => absurd q (by decide +kernel), fun _ => q_Md_lacks hM hV (by omega) hw ?_⟩
        rw [if_neg c, if_neg c2]; exact h
  · simp only [o_item, et, ew] at h
    rw [ny_m1]; exact h
  · simp only [o_item, et] at h
    rw [ny_m1]; exact h
theorem q_Md_write {x y v : Int32} (hM : ny_SM I s) (hV : nz_SV s) (h : ∀ I', (∀ c, c ≠ 115 → I' c = I c) → ny_SM I' (o_write x y v s).2 → Q (o_write x y v s).1 I') : ny_C1 (d + 2) m_Md_write [.ref 102, .int x, .int y, .int v] Ln I Q := by
  have no : ∀ v', o_write x y v s = (v', s) → Q v' I := fun v' e => by
    rw [e] at h; exact h I (fun _ _ => rfl) hM
  refine s_Md_write_0 (q_Md_isSheet (fun t et ht ex => ⟨fun _ => ⟨?_, ?_⟩, fun q => absurd q (by decide)⟩) fun et => ⟨fun q => absurd rfl q, fun _ => ?_⟩)
  · rw [ex]; exact ny_inN (by omega) (by decide)
  · have vv := hV t (by omega)
    have hm := hM t (by omega)
    subst ex
    rw [nI_clamp (by omega), hm.1, nz_sv_0 vv.1]
    refine ⟨fun c => ⟨ny_inN (by omega) (by decide), ?_⟩, fun c => ?_⟩
    · rw [hm.2.1]
      refine q_Md_inL rfl rfl (by omega) (fun i ei hi ey => ⟨fun _ => ⟨ny_inN (by omega) (by decide), ?_⟩, fun q => absurd q (by decide)⟩) (fun ei => ⟨fun q => absurd rfl q, fun _ => ?_⟩)
      · subst ey
        rw [hm.1]
        simp only [o_write, et, if_neg c, ei] at h
        simp (disch := omega) only [ny_lit, nI_add, ny_mul, nI_clamp, ny_le, ny_lt, ny_eq, ny_div, ny_rem, ny_rem2, ny_inN, nz_sv_n, true_and]
        have put : ∀ u, u = nz_nar (s.1 t) v → Q (nI 1) (ny_up I 115 (40 * t + i) u) := by
          intro u eu
          refine h _ (fun c x => ny_upne _ x _ _) fun q hq => ?_
          obtain ⟨g1, g2, g3⟩ := hM q hq
          rw [ny_upne _ (by decide), ny_upne _ (by decide)]
          refine ⟨g1, g2, fun j hj => ?_⟩
          rw [ny_upeq]
          unfold upd
          show _ = (if q = t ∧ j = i then nz_nar (s.1 t) v else s.2.2 q j)
          by_cases e : q = t ∧ j = i
          · rw [if_pos (by omega), if_pos e]; exact eu
          · rw [if_neg (by omega), if_neg e]; exact g3 j hj
        refine ⟨fun c0 => ⟨fun c1 => ⟨fun c4 => put _ ?_, fun c4 => ⟨fun cv => put _ ?_, fun cv => put _ ?_⟩⟩, fun c1 => put _ ?_⟩, fun c0 => put _ ?_⟩
        · unfold nz_nar; rw [if_neg c0, if_neg c1, if_neg c4]
        · unfold nz_nar; rw [if_neg c0, if_neg c1, if_pos c4, if_neg (show ¬ v = 0 from cv)]
        · unfold nz_nar; rw [if_neg c0, if_neg c1, if_pos c4, if_pos (show v = 0 from cv)]
        · unfold nz_nar; rw [if_neg c0, if_pos c1]
        · unfold nz_nar; rw [if_pos c0]
      · rw [ny_m12]
        refine no _ ?_
        simp only [o_write, et, if_neg c, ei]
    · rw [ny_m11]
      refine no _ ?_
      simp only [o_write, et, if_pos (show s.1 t = 5 by omega)]
  · rw [ny_m1]
    refine no _ ?_
    simp only [o_write, et]
end NZSH
