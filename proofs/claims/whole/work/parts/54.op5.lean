/-! the model: a report -/
def nz_rep (a : ny_a) (b q l m : Nat) : ny_a := ny_au (ny_au (ny_au (ny_au (ny_au a (98 + 4 * a 6) b) (99 + 4 * a 6) q) (100 + 4 * a 6) l) (101 + 4 * a 6) m) 6 (a 6 + 1)
def o_report (x y z w : Int32) (a : ny_a) : Int32 × ny_a :=
  match nz_in 0 15 x, nz_in 0 1 y with
  | some b, some q => match nz_in 0 (if y = nI 0 then 99 else 999) z with
    | some l => match nz_in l (if y = nI 0 then 99 else 999) w with
      | some m => if a 6 = 6 then (nI 4294967294, a) else (nI (a 6), nz_rep a b q l m)
      | none => o_no a
    | none => o_no a
  | _, _ => o_no a
section NZOU
variable {d Ln : Nat} {I : ny_I} {Q : Int32 → ny_I → Prop} {Q0 : ny_I → Prop} {a : ny_a}
theorem q_Md_report {x y z w : Int32} (ha : ny_Md I a) (hV : ny_V a) (h : ∀ I', nz_af 0 I' I (o_report x y z w a).2 → Q (o_report x y z w a).1 I') : ny_C1 (d + 1) m_Md_report [.ref 102, .int x, .int y, .int z, .int w] Ln I Q := by
  have V1 := hV.1; have V2 := hV.2.1; have V3 := hV.2.2.1; have V4 := hV.2.2.2.1; have V5 := hV.2.2.2.2.1; obtain ⟨v0, v1, v2, v3, v5, v6, v7⟩ := V1
  have no : (o_report x y z w a) = o_no a → Q (-1 : Int32) I := by
    intro e
    rw [e] at h
    rw [ny_m1]; exact h I (nz_af_r ha)
  have main : ∀ top, top ≤ 999 → top = (if y = nI 0 then 99 else 999) → ny_g (d + 1) m_Md_report 12 [(0, .ref 102), (1, .int x), (2, .int y), (3, .int z), (4, .int w)] [.int (nI top)] Ln I (ny_r1 Ln Q) := by
    intro top ht et
    refine s_Md_report_12 (q_Md_I 0 15 rfl rfl (by decide) (by decide) (fun b eb _ hb ex => ⟨fun q => absurd q (by decide), fun _ => q_Md_I 0 1 rfl rfl (by decide) (by decide) (fun q eq _ hq ey => ⟨fun q => absurd q (by decide), fun _ => q_Md_I 0 top rfl (nI_l (by omega)) (by decide) (by omega) (fun l el _ hl ez => ⟨fun q => absurd q (by decide), fun _ => ?_⟩) (fun el => ⟨fun _ => no (by simp only [o_report, eb, eq, ← et, el]), fun q => absurd rfl q⟩)⟩) (fun eq => ⟨fun _ => no (by simp only [o_report, eb, eq]), fun q => absurd rfl q⟩)⟩) (fun eb => ⟨fun _ => no (by simp only [o_report, eb]), fun q => absurd rfl q⟩))
    refine q_Md_I l top (by rw [ez]; exact nI_l (by omega)) (nI_l (by omega)) (by omega) (by omega) (fun m em hm1 hm ew => ⟨fun _ => ?_, fun q => absurd q (by decide)⟩) (fun em => ⟨fun q => absurd rfl q, fun _ => no (by simp only [o_report, eb, eq, ← et, el, em])⟩)
    simp only [o_report, eb, eq, ← et, el, em] at h
    subst ex ez ew
    rw [ey]
    have e1 : 98 + 4 * a 6 + 1 = 99 + 4 * a 6 := by omega
    have e2 : 98 + 4 * a 6 + 2 = 100 + 4 * a 6 := by omega
    have e3 : 98 + 4 * a 6 + 3 = 101 + 4 * a 6 := by omega
    have M := nz_Md_up (nz_Md_up (nz_Md_up (nz_Md_up ha (98 + 4 * a 6) b) (99 + 4 * a 6) q) (100 + 4 * a 6) l) (101 + 4 * a 6) m
    have M6 := M 6
    rw [nz_au_ne (by omega), nz_au_ne (by omega), nz_au_ne (by omega), nz_au_ne (by omega)] at M6
    have F := nz_Md_up M 6 (a 6 + 1)
    have F6 := F 6
    rw [nz_au_eq] at F6
    simp (disch := omega) only [ny_lit, nI_add, ny_mul, nI_clamp, ny_le, ny_lt, ny_eq, ny_div, ny_rem, ny_rem2, ny_inN, ha _, true_and, e1, e2, e3, M6]
    refine ⟨fun c => ?_, fun c => ?_⟩
    · rw [if_neg c] at h
      rw [F6, pk_sub (by omega)]
      refine h _ ⟨F, fun c x _ => ?_, fun j hj => absurd hj (by omega)⟩
      rw [ny_upne _ x, ny_upne _ x, ny_upne _ x, ny_upne _ x, ny_upne _ x]
    · rw [if_pos c] at h
      rw [show -nI 2 = nI 4294967294 from ny_m2]; exact h I (nz_af_r ha)
  refine s_Md_report_0 ⟨fun c => main 999 (by decide) (if_neg c).symm, fun c => main 99 (by decide) (if_pos c).symm⟩
end NZOU
