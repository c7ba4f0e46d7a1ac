/-! both: the way round -/
def nz_stp (a : ny_a) (t b most : Nat) : Nat → Nat → Nat → Nat
  | 0, _, _ => 99
  | f + 1, at', n => if at' = t then n else if most < a (44 + (at' + b) % 6) then 99 else nz_stp a t b most f ((at' + b) % 6) (n + 1)
theorem nz_stp_b {a : ny_a} {t b most : Nat} : ∀ f at' n, n + f = 6 → nz_stp a t b most f at' n = 99 ∨ nz_stp a t b most f at' n ≤ 5 := by
  intro f
  induction f with
  | zero => intro at' n h; exact Or.inl rfl
  | succ f ih =>
    intro at' n h
    rw [nz_stp]
    split
    · right; omega
    · split
      · left; rfl
      · exact ih _ _ (by omega)
def o_way (x y z : Int32) (a : ny_a) : Int32 :=
  match nz_in 0 5 x, nz_in 0 5 y, nz_in 0 9 z with
  | some f, some t, some m => if 99 ≤ min (nz_stp a t 1 m 6 f 0) (nz_stp a t 5 m 6 f 0) then nI 4294967293 else nI (min (nz_stp a t 1 m 6 f 0) (nz_stp a t 5 m 6 f 0))
  | _, _, _ => nI 4294967295
section NZWY
variable {d Ln : Nat} {I : ny_I} {Q : Int32 → ny_I → Prop} {Q0 : ny_I → Prop} {a : ny_a}
theorem q_Md_stepsBy {f t b most : Nat} (ha : ny_Md I a) (hV : ny_V a) (hf : f ≤ 5) (ht : t ≤ 5) (hb : b = 1 ∨ b = 5) (hm : most ≤ 9) (h : Q (nI (nz_stp a t b most 6 f 0)) I) : ny_C1 d m_Md_stepsBy [.ref 102, .int (nI f), .int (nI t), .int (nI most), .int (nI b)] Ln I Q := by
  have key : ∀ fu at' n, n + fu = 6 → at' ≤ 5 → (∃ r, r < fu ∧ (at' + b * r) % 6 = t) → Q (nI (nz_stp a t b most fu at' n)) I → ny_g d m_Md_stepsBy 6 [(0, .ref 102), (2, .int (nI t)), (3, .int (nI most)), (4, .int (nI b)), (5, .int (nI at')), (6, .int (nI n))] [] Ln I (ny_r1 Ln Q) := by
    intro fu
    induction fu with
    | zero => rintro at' n hn ha5 ⟨r, hr, _⟩; omega
    | succ fu ih =>
      rintro at' n hn ha5 ⟨r, hr, er⟩ hQ
      have hmod : (at' + b) % 6 < 6 := Nat.mod_lt _ (by decide)
      have V4 := (hV.2.2.2.1 ((at' + b) % 6) hmod).2
      rw [nz_stp] at hQ
      refine s_Md_stepsBy_6 ?_
      simp (disch := omega) only [ny_lit, nI_add, ny_mul, nI_clamp, ny_le, ny_lt, ny_eq, ny_div, ny_rem, ny_rem2, ny_inN, ha _, true_and]
      refine ⟨fun c => ?_, fun c => ⟨fun q => absurd q (by omega), fun _ => ⟨fun c2 => ?_, fun c2 => ?_⟩⟩⟩
      · rw [if_pos c] at hQ; exact hQ
      · rw [if_neg c, if_neg (by omega)] at hQ
        refine ih _ (n + 1) (by omega) (by omega) ?_ hQ
        have r0 : r ≠ 0 := by
          intro e; subst e
          rw [Nat.mul_zero, Nat.add_zero, Nat.mod_eq_of_lt (by omega)] at er
          exact c er
        refine ⟨r - 1, by omega, ?_⟩
        rcases hb with rfl | rfl <;> omega
      · rw [if_neg c, if_pos (by omega)] at hQ
        refine s_Md_stepsBy_6 ?_
        simp (disch := omega) only [ny_lit, nI_add, ny_mul, nI_clamp, ny_le, ny_lt, ny_eq, ny_div, ny_rem, ny_rem2, ny_inN]
        exact ⟨fun _ => hQ, fun _ => ⟨fun _ => hQ, fun q => absurd q (by omega)⟩⟩
  refine s_Md_stepsBy_0 (key 6 f 0 rfl hf ?_ h)
  have : ∀ f, f < 6 → ∀ t, t < 6 → ∀ b, b < 6 → (b = 1 ∨ b = 5) → ∃ r, r < 6 ∧ (f + b * r) % 6 = t := by decide
  exact this f (by omega) t (by omega) b (by omega) hb
theorem q_Md_way {x y z : Int32} (ha : ny_Md I a) (hV : ny_V a) (h : Q (o_way x y z a) I) : ny_C1 (d + 1) m_Md_way [.ref 102, .int x, .int y, .int z] Ln I Q := by
  refine s_Md_way_0 (q_Md_isNiche (fun f ef hf ex => ⟨fun q => absurd q (by decide), fun _ => q_Md_isNiche (fun t et ht ey => ⟨fun q => absurd q (by decide), fun _ => q_Md_I 0 9 rfl rfl (by decide) (by decide) (fun m em _ hm ez => ⟨fun _ => ?_, fun q => absurd q (by decide)⟩) (fun em => ⟨fun q => absurd rfl q, fun _ => ?_⟩)⟩) (fun et => ⟨fun _ => ?_, fun q => absurd rfl q⟩)⟩) (fun ef => ⟨fun _ => ?_, fun q => absurd rfl q⟩))
  · subst ex ey ez
    simp only [o_way, ef, et, em] at h
    have b1 := nz_stp_b (a := a) (t := t) (b := 1) (most := m) 6 f 0 rfl
    have b2 := nz_stp_b (a := a) (t := t) (b := 5) (most := m) 6 f 0 rfl
    refine q_Md_stepsBy (b := 1) ha hV hf ht (by decide) hm (q_Md_stepsBy (b := 5) ha hV hf ht (by decide) hm (q_Md_lst (by omega) (by omega) ?_))
    simp (disch := omega) only [ny_lit, nI_add, ny_mul, nI_clamp, ny_le, ny_lt, ny_eq, ny_div, ny_rem, ny_rem2, ny_inN]
    refine ⟨fun c => ?_, fun c => ?_⟩
    · rw [if_pos c] at h
      rw [show -nI 3 = nI 4294967293 from ny_m3]; exact h
    · rw [if_neg c] at h; exact h
  · simp only [o_way, ef, et, em] at h
    rw [ny_m1]; exact h
  · simp only [o_way, ef, et] at h
    rw [ny_m1]; exact h
  · simp only [o_way, ef] at h
    rw [ny_m1]; exact h
theorem q_Ba_stepsRound {f t b most : Nat} (hB : ny_Ba I a) (hV : ny_V a) (hf : f ≤ 5) (ht : t ≤ 5) (hb : b = 1 ∨ b = 5) (hm : most ≤ 9) (h : Q (if nz_stp a t b most 6 f 0 = 99 then nI 4294967293 else nI (nz_stp a t b most 6 f 0)) I) : ny_C1 d m_Ba_stepsRound [.ref 6, .int (nI f), .int (nI t), .int (nI b), .int (nI most)] Ln I Q := by
  have key : ∀ fu at' n, n + fu = 6 → at' ≤ 5 → Q (if nz_stp a t b most fu at' n = 99 then nI 4294967293 else nI (nz_stp a t b most fu at' n)) I → ny_g d m_Ba_stepsRound 6 [(0, .ref 6), (2, .int (nI t)), (3, .int (nI b)), (4, .int (nI most)), (5, .int (nI at')), (6, .int (nI n))] [] Ln I (ny_r1 Ln Q) := by
    intro fu
    induction fu with
    | zero =>
      intro at' n hn ha5 hQ
      refine s_Ba_stepsRound_6 ?_
      simp (disch := omega) only [ny_lit, nI_add, ny_mul, nI_clamp, ny_le, ny_lt, ny_eq, ny_div, ny_rem, ny_rem2, ny_inN]
      refine ⟨fun _ => ?_, fun q => absurd q (by omega)⟩
      rw [show nz_stp a t b most 0 at' n = 99 from rfl, if_pos rfl] at hQ
      rw [show -nI 3 = nI 4294967293 from ny_m3]; exact hQ
    | succ fu ih =>
      intro at' n hn ha5 hQ
      have hmod : (at' + b) % 6 < 6 := Nat.mod_lt _ (by decide)
      have V4 := (hV.2.2.2.1 ((at' + b) % 6) hmod).2
      have e := (hB.2.2.1 ((at' + b) % 6) hmod).2
      refine s_Ba_stepsRound_6 ?_
      simp (disch := omega) only [ny_lit, nI_add, ny_mul, nI_clamp, ny_le, ny_lt, ny_eq, ny_div, ny_rem, ny_rem2, ny_inN, e, true_and]
      refine ⟨fun q => absurd q (by omega), fun _ => ⟨fun c => ⟨fun c2 => ?_, fun c2 => ?_⟩, fun c => ?_⟩⟩
      · rw [show nz_stp a t b most (fu + 1) at' n = nz_stp a t b most fu ((at' + b) % 6) (n + 1) by rw [nz_stp, if_neg c, if_neg (by omega)]] at hQ
        exact ih _ (n + 1) (by omega) (by omega) hQ
      · rw [show nz_stp a t b most (fu + 1) at' n = 99 by rw [nz_stp, if_neg c, if_pos (by omega)], if_pos rfl] at hQ
        rw [show -nI 3 = nI 4294967293 from ny_m3]; exact hQ
      · rw [show nz_stp a t b most (fu + 1) at' n = n by rw [nz_stp, if_pos c], if_neg (by omega)] at hQ; exact hQ
  exact s_Ba_stepsRound_0 (key 6 f 0 rfl hf h)
theorem nz_nm3 {n : Nat} (h : n < 2 ^ 31) : ¬ nI n = nI 4294967293 := by
  intro q
  have := congrArg Int32.toInt q
  rw [nI_toInt h, show (nI 4294967293).toInt = -3 by decide +kernel] at this
  omega
theorem q_No_way {x y z : Int32} (hC : ny_Cl I a) (hV : ny_V a) (h : Q (o_way x y z a) I) : ny_C1 (d + 2) m_No_way [.ref 5, .int x, .int y, .int z] Ln I Q := by
  refine s_No_way_0 (q_No_isNiche (fun f ef hf ex => ⟨fun q => absurd q (by decide), fun _ => q_No_isNiche (fun t et ht ey => ⟨fun q => absurd q (by decide), fun _ => q_No_I 0 9 rfl rfl (by decide) (by decide) (fun m em _ hm ez => ⟨fun _ => ?_, fun q => absurd q (by decide)⟩) (fun em => ⟨fun q => absurd rfl q, fun _ => ?_⟩)⟩) (fun et => ⟨fun _ => ?_, fun q => absurd rfl q⟩)⟩) (fun ef => ⟨fun _ => ?_, fun q => absurd rfl q⟩))
  · subst ex ey ez
    simp only [o_way, ef, et, em] at h
    have b1 := nz_stp_b (a := a) (t := t) (b := 1) (most := m) 6 f 0 rfl
    have b2 := nz_stp_b (a := a) (t := t) (b := 5) (most := m) 6 f 0 rfl
    refine q_Ba_stepsRound (b := 1) hC.1 hV hf ht (by decide) hm (q_Ba_stepsRound (b := 5) hC.1 hV hf ht (by decide) hm ?_)
    generalize nz_stp a t 1 m 6 f 0 = u at *
    generalize nz_stp a t 5 m 6 f 0 = v at *
    rw [ny_m3]
    by_cases cu : u = 99
    · rw [if_pos cu]
      refine ⟨fun _ => ?_, fun q => absurd rfl q⟩
      by_cases cv : v = 99
      · rw [if_pos cv]
        rw [if_pos (by omega)] at h; exact h
      · rw [if_neg cv]
        rw [if_neg (by omega), show min u v = v by omega] at h; exact h
    · rw [if_neg cu]
      refine ⟨fun q => absurd q (nz_nm3 (by omega)), fun _ => ?_⟩
      by_cases cv : v = 99
      · rw [if_pos cv]
        rw [if_neg (by omega), show min u v = u by omega] at h
        exact ⟨fun _ => h, fun q => absurd rfl q⟩
      · rw [if_neg cv]
        rw [if_neg (by omega)] at h
        refine ⟨fun q => absurd q (nz_nm3 (by omega)), fun _ => ?_⟩
        rw [ny_le (by omega) (by omega)]
        refine ⟨fun c => ?_, fun c => ?_⟩
        · rw [show min u v = u by omega] at h; exact h
        · rw [show min u v = v by omega] at h; exact h
  · simp only [o_way, ef, et, em] at h
    rw [ny_m1]; exact h
  · simp only [o_way, ef, et] at h
    rw [ny_m1]; exact h
  · simp only [o_way, ef] at h
    rw [ny_m1]; exact h
end NZWY
