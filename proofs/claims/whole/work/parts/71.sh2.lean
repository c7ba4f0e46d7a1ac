/-! the class: sheets -/
section NZSC
variable {d Ln : Nat} {I : ny_I} {Q : Int32 → ny_I → Prop} {Q0 : ny_I → Prop} {a : ny_a} {s : nz_sh}
theorem q_Ja_fill40 {o : Nat} (ho : o = 91 ∨ o = 93 ∨ o = 95 ∨ o = 97) (h : ∀ I', (∀ c, c ≠ o → I' c = I c) → (∀ i, i < 40 → I' o i = 0) → Q0 I') : ny_C0 d m_Ja_fill [.ref o, .int (0 : Int32)] Ln I Q0 := by
  have key : ∀ m k (I1 : ny_I), k + m = 40 → (∀ c, c ≠ o → I1 c = I c) → (∀ i, i < k → I1 o i = 0) → ny_g d m_Ja_fill 5 [(0, .ref o), (1, .int (0 : Int32)), (2, .int (nI k)), (3, .int (nI 40))] [] Ln I1 (ny_r0 Ln Q0) := by
    intro m
    induction m with
    | zero =>
      intro k I1 hk hc hi
      refine s_Ja_fill_items_5 ho ?_
      rw [ny_le (by omega) (by omega)]
      exact ⟨fun _ => h I1 hc fun i h => hi i (by omega), fun q => absurd (by omega) q⟩
    | succ m ih =>
      intro k I1 hk hc hi
      refine s_Ja_fill_items_5 ho ?_
      rw [ny_le (by omega) (by omega), nI_clamp (by omega)]
      refine ⟨fun q => absurd q (by omega), fun _ => ⟨ny_inN (by omega) (by decide), ?_⟩⟩
      rw [nI_1]
      refine ih (k + 1) _ (by omega) (fun c x => by rw [ny_upne _ x]; exact hc c x) fun i h => ?_
      rw [ny_upeq]
      unfold upd
      by_cases c : i = k
      · rw [if_pos c]
      · rw [if_neg c]; exact hi i (by omega)
  exact s_Ja_fill_items_0 ho (key 40 0 I rfl (fun _ _ => rfl) (fun i h => absurd h (by omega)))
theorem q_Sh_becomeRow {t : Nat} {x y : Int32} (ht : t < 4) (h : ∀ I', (∀ c, c ≠ 90 + 2 * t → c ≠ 91 + 2 * t → I' c = I c) → I' (90 + 2 * t) 0 = x → I' (90 + 2 * t) 1 = y → (∀ i, i < 40 → I' (91 + 2 * t) i = 0) → Q0 I') : ny_C0 (d + 1) m_Sh_becomeRow [.ref (90 + 2 * t), .int x, .int y] Ln I Q0 := by
  refine s_Sh_becomeRow_0 (by omega) (q_Ja_fill40 (by omega) fun I' h1 h2 => h I' (fun c c1 c2 => ?_) ?_ ?_ fun i hi => ?_)
  · rw [h1 c (by omega), ny_upne _ c1, ny_upne _ c1]
  · rw [h1 _ (by omega)]
    simp (disch := omega) only [ny_uprd, if_neg, if_true, and_self]
  · rw [h1 _ (by omega)]
    simp (disch := omega) only [ny_uprd, if_true, and_self]
  · rw [show 91 + 2 * t = 90 + 2 * t + 1 by omega]; exact h2 i hi
theorem q_Sh_isSort {x : Int32} (h1 : ∀ m, nz_in 0 4 x = some m → m ≤ 4 → x = nI m → Q (nI 1) I) (h0 : nz_in 0 4 x = none → Q (nI 0) I) : ny_C1 d m_Sh_isSort [.int x] Ln I Q := by
  refine s_Sh_isSort_0 ⟨fun c => h0 (nz_in_n (by decide) (by decide) fun m _ hm e => ?_), fun c => ?_⟩
  · rw [e] at c; exact nI_pos (by omega) c
  · obtain ⟨k, hk, rfl⟩ := nI_of c
    rw [ny_lit, ny_lt (by decide) hk]
    refine ⟨fun c2 => h0 (nz_in_n (by decide) (by decide) fun m _ hm e => ?_), fun c2 => h1 k (nz_in_s (by decide) (by decide) (by omega) (by show k ≤ 4; exact Nat.le_of_not_lt c2) rfl) (Nat.le_of_not_lt c2) rfl⟩
    have := (ny_eq hk (by omega)).mp e
    have c2 : 4 < k := c2
    omega
theorem q_Sh_has {t n : Nat} {x : Int32} (ht : t < 4) (e1 : I (90 + 2 * t) 1 = nI n) (hn : n ≤ 40) (h1 : ∀ i, nz_bl n x = some i → i < n → x = nI i → Q (nI 1) I) (h0 : nz_bl n x = none → Q (nI 0) I) : ny_C1 d m_Sh_has [.ref (90 + 2 * t), .int x] Ln I Q := by
  refine s_Sh_has_0 (by omega) ?_
  rw [e1]
  refine ⟨fun c => h0 (nz_bl_n (by omega) fun m hm e => ?_), fun c => ?_⟩
  · rw [e] at c; exact nI_pos (by omega) c
  · obtain ⟨k, hk, rfl⟩ := nI_of c
    simp (disch := omega) only [ny_lit, ny_le]
    refine ⟨fun c2 => h0 (nz_bl_n (by omega) fun m hm e => ?_), fun c2 => ⟨fun c3 => absurd c3 (by omega), fun _ => h1 k (nz_bl_s (by omega) (by omega) rfl) (by omega) rfl⟩⟩
    have := (ny_eq hk (by omega)).mp e
    omega
theorem q_Sh_refusalAs {t w : Nat} (hM : ny_SC I s) (hV : nz_SV s) (ht : t < 4) (hw : w ≤ 4) (h : Q (if s.1 t = 5 then nI 4294967285 else if s.1 t = w then nI 0 else nI 4294967283) I) : ny_C1 d m_Sh_refusalAs [.ref (90 + 2 * t), .int (nI w)] Ln I Q := by
  have v := (hV t ht).1
  refine s_Sh_refusalAs_0 (by omega) ?_
  rw [(hM t ht).1, ny_m1, nz_sv_1 v, nz_sv_n v hw]
  refine ⟨fun c => ⟨fun c2 => ?_, fun c2 => ?_⟩, fun c => ?_⟩
  · rw [if_neg c, if_neg c2] at h; rw [ny_m13]; exact h
  · rw [if_neg c, if_pos c2] at h; exact h
  · rw [if_pos c] at h; rw [ny_m11]; exact h
theorem q_No_item {x y z : Int32} (hM : ny_SC I s) (hV : nz_SV s) (h : Q (o_item x y z s) I) : ny_C1 (d + 2) m_No_item [.ref 5, .int x, .int y, .int z] Ln I Q := by
  refine s_No_item_0 (q_No_I 0 3 rfl rfl (by decide) (by decide) (fun t et _ ht ex => ⟨fun q => absurd q (by decide), fun _ => q_Sh_isSort (fun w ew hw ey => ⟨fun _ => ⟨?_, ?_⟩, fun q => absurd q (by decide)⟩) (fun ew => ⟨fun q => absurd rfl q, fun _ => ?_⟩)⟩) fun et => ⟨fun _ => ?_, fun q => absurd rfl q⟩)
  · rw [ex]; exact ny_inN (by omega) (by decide)
  · simp only [o_item, et, ew] at h
    subst ex ey
    have v := hV t (by omega)
    rw [nI_clamp (by omega)]
    refine s_No_item_a23 (by omega) (q_Sh_refusalAs hM hV (by omega) hw ?_)
    by_cases c : s.1 t = 5
    · rw [if_pos c] at h ⊢
      exact ⟨fun q => absurd q (by decide +kernel), fun _ => h⟩
    · rw [if_neg c] at h ⊢
      by_cases c2 : s.1 t = w
      · rw [if_pos c2] at h ⊢
        refine ⟨fun _ => q_Sh_has (by omega) (hM t (by omega)).2.1 v.2 (fun i ei hi ez => ⟨fun q => absurd q (by decide), fun _ => ?_⟩) (fun ei => ⟨fun _ => ?_, fun q => absurd rfl q⟩), fun q => absurd rfl q⟩
        · simp only [ei] at h
          subst ez
          simp (disch := omega) only [ny_lit, nI_add, ny_mul, nI_clamp, ny_le, ny_lt, ny_eq, ny_div, ny_rem, ny_rem2, ny_inN, true_and]
          rw [show 90 + 2 * t + 1 = 91 + 2 * t by omega, (hM t (by omega)).2.2 i (by omega)]; exact h
        · simp only [ei] at h
          rw [ny_m12]; exact h
      · rw [if_neg c2] at h ⊢
        exact ⟨fun q => absurd q (by decide +kernel), fun _ => h⟩
  · simp only [o_item, et, ew] at h
    rw [ny_m1]; exact h
  · simp only [o_item, et] at h
    rw [ny_m1]; exact h
theorem nz_ss_C {I I' : ny_I} {s : nz_sh} {t w n : Nat} (h : ny_SC I s) (hc : ∀ c, c ≠ 90 + 2 * t → c ≠ 91 + 2 * t → I' c = I c) (h0 : I' (90 + 2 * t) 0 = nz_sv w) (h1 : I' (90 + 2 * t) 1 = nI n) (h2 : ∀ i, i < 40 → I' (91 + 2 * t) i = 0) : ny_SC I' (nz_ss s t w n) := by
  intro q hq
  obtain ⟨g1, g2, g3⟩ := h q hq
  by_cases c : q = t
  · subst c
    simp only [if_pos, nz_ss]
    exact ⟨h0, h1, h2⟩
  · simp only [if_neg c, nz_ss]
    rw [hc _ (by omega) (by omega), hc (91 + 2 * q) (by omega) (by omega)]
    exact ⟨g1, g2, g3⟩
theorem q_No_sheet {x y z : Int32} (hM : ny_SC I s) (h : ∀ I', (∀ c, c < 90 ∨ 97 < c → I' c = I c) → ny_SC I' (o_sheet x y z s).2 → Q (o_sheet x y z s).1 I') : ny_C1 (d + 2) m_No_sheet [.ref 5, .int x, .int y, .int z] Ln I Q := by
  have no : ∀ v, o_sheet x y z s = (v, s) → Q v I := fun v e => by
    rw [e] at h; exact h I (fun _ _ => rfl) hM
  refine s_No_sheet_0 (q_No_I 0 3 rfl rfl (by decide) (by decide) (fun t et _ ht ex => ⟨fun _ => ⟨fun ey => q_Sh_isSort (fun w ew hw ey2 => ⟨fun q => absurd q (by decide), fun _ => ⟨fun c => ⟨fun c2 => ⟨?_, ?_⟩, fun c2 => ?_⟩, fun c => ?_⟩⟩) (fun ew => ⟨fun _ => ?_, fun q => absurd rfl q⟩), fun ey => ⟨?_, ?_⟩⟩, fun q => absurd q (by decide)⟩) fun et => ⟨fun q => absurd rfl q, fun _ => ?_⟩)
  · rw [ex]; exact ny_inN (by omega) (by decide)
  · obtain ⟨j, hj, rfl⟩ := nI_of (Int32.not_lt.mpr c2)
    have y1 : ¬ y = nI 4294967295 := nz_neg ey2 (by omega)
    have c' : j ≤ 40 := (ny_le hj (by decide)).mp c
    simp only [o_sheet, et, if_neg y1, ew, if_neg (show ¬ nI 40 < nI j from Int32.not_lt.mpr c), if_neg (show ¬ nI j < 0 from Int32.not_lt.mpr c2), nI_clamp hj] at h
    subst ex
    rw [nI_clamp (by omega)]
    exact s_No_sheet_a56 (by omega) (q_Sh_becomeRow (by omega) fun I' g1 g2 g3 g4 => h I' (fun c hc => g1 c (by omega) (by omega)) (nz_ss_C hM g1 (by rw [g2, ey2, nz_sv, if_neg (by omega)]) g3 g4))
  · rw [ny_m14]
    have y1 : ¬ y = nI 4294967295 := nz_neg ey2 (by omega)
    refine no _ ?_
    simp only [o_sheet, et, if_neg y1, ew, if_neg (show ¬ nI 40 < z from Int32.not_lt.mpr c), if_pos (show z < 0 from Int32.not_le.mp c2)]
  · rw [ny_m1]
    have y1 : ¬ y = nI 4294967295 := nz_neg ey2 (by omega)
    refine no _ ?_
    simp only [o_sheet, et, if_neg y1, ew, if_pos (show nI 40 < z from Int32.not_le.mp c)]
  · rw [ny_m1]
    rw [ny_m1] at ey
    refine no _ ?_
    simp only [o_sheet, et, if_neg ey, ew]
  · rw [ex]; exact ny_inN (by omega) (by decide)
  · rw [ny_m1] at ey
    simp only [o_sheet, et, if_pos ey] at h
    subst ex
    rw [nI_clamp (by omega)]
    exact s_No_sheet_a21 (by omega) (q_Sh_becomeRow (by omega) fun I' g1 g2 g3 g4 => h I' (fun c hc => g1 c (by omega) (by omega)) (nz_ss_C hM g1 (by rw [g2]; exact ny_m1) g3 g4))
  · rw [ny_m1]
    refine no _ ?_
    simp only [o_sheet, et]
theorem q_Sh_narrowed {t w : Nat} {v : Int32} (ht : t < 4) (e0 : I (90 + 2 * t) 0 = nz_sv w) (hw : w ≤ 5) (h : Q (nz_nar w v) I) : ny_C1 d m_Sh_narrowed [.ref (90 + 2 * t), .int v] Ln I Q := by
  refine s_Sh_narrowed_0 (by omega) ?_
  rw [e0]
  simp (disch := omega) only [ny_lit, nI_add, ny_mul, nI_clamp, ny_le, ny_lt, ny_eq, ny_div, ny_rem, ny_rem2, ny_inN, nz_sv_n]
  unfold nz_nar at h
  refine ⟨fun c => ?_, fun c => ?_, fun c => ?_, fun c => ?_, fun c => ⟨fun cv => ?_, fun cv => ?_⟩, fun c0 c1 c2 c3 c4 => ?_⟩
  · rw [if_pos c] at h; exact h
  · rw [if_neg (by omega), if_pos c] at h; exact h
  · rw [if_neg (by omega), if_neg (by omega), if_neg (by omega)] at h; exact h
  · rw [if_neg (by omega), if_neg (by omega), if_neg (by omega)] at h; exact h
  · rw [if_neg (by omega), if_neg (by omega), if_pos c, if_pos (show v = 0 from cv)] at h; exact h
  · rw [if_neg (by omega), if_neg (by omega), if_pos c, if_neg (show ¬ v = 0 from cv)] at h; exact h
  · rw [if_neg c0, if_neg c1, if_neg c4] at h; exact h
theorem q_No_write {x y v : Int32} (hM : ny_SC I s) (hV : nz_SV s) (h : ∀ I', (∀ c, c < 90 ∨ 97 < c → I' c = I c) → ny_SC I' (o_write x y v s).2 → Q (o_write x y v s).1 I') : ny_C1 (d + 2) m_No_write [.ref 5, .int x, .int y, .int v] Ln I Q := by
  have no : ∀ v', o_write x y v s = (v', s) → Q v' I := fun v' e => by
    rw [e] at h; exact h I (fun _ _ => rfl) hM
  refine s_No_write_0 (q_No_I 0 3 rfl rfl (by decide) (by decide) (fun t et _ ht ex => ⟨fun _ => ⟨?_, ?_⟩, fun q => absurd q (by decide)⟩) fun et => ⟨fun q => absurd rfl q, fun _ => ?_⟩)
  · rw [ex]; exact ny_inN (by omega) (by decide)
  · have vv := hV t (by omega)
    have hm := hM t (by omega)
    subst ex
    rw [nI_clamp (by omega)]
    refine s_No_write_a16 (by omega) ?_
    rw [hm.1, ny_m1, nz_sv_1 vv.1]
    refine ⟨fun c => q_Sh_has (by omega) hm.2.1 vv.2 (fun i ei hi ey => ⟨fun _ => q_Sh_narrowed (by omega) hm.1 vv.1 ⟨?_, ?_⟩, fun q => absurd q (by decide)⟩) (fun ei => ⟨fun q => absurd rfl q, fun _ => ?_⟩), fun c => ?_⟩
    · rw [ey]; exact ny_inN (by omega) (by decide)
    · subst ey
      simp only [o_write, et, if_neg c, ei] at h
      rw [nI_clamp (by omega), show 90 + 2 * t + 1 = 91 + 2 * t by omega]
      refine h _ (fun c x => ny_upne _ (by omega) _ _) fun q hq => ?_
      obtain ⟨g1, g2, g3⟩ := hM q hq
      rw [ny_upne _ (by omega)]
      refine ⟨g1, g2, fun j hj => ?_⟩
      rw [ny_uprd]
      show _ = (if q = t ∧ j = i then nz_nar (s.1 t) v else s.2.2 q j)
      by_cases e : q = t ∧ j = i
      · rw [if_pos (by omega), if_pos e]
      · rw [if_neg (by omega), if_neg e]; exact g3 j hj
    · rw [ny_m12]
      refine no _ ?_
      simp only [o_write, et, if_neg c, ei]
    · rw [ny_m11]
      refine no _ ?_
      simp only [o_write, et, if_pos c]
  · rw [ny_m1]
    refine no _ ?_
    simp only [o_write, et]
end NZSC
