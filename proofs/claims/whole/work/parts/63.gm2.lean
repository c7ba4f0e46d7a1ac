/-! the class: a game, play -/
def nz_vf (k : Nat) (I' I : ny_I) : Prop := (∀ q, q ≠ 22 → (q ≠ 67 ∨ k ≠ 0) → ¬ (73 + 2 * k ≤ q ∧ q ≤ 80) → I' q = I q) ∧ (∀ j, 5 ≤ j → I' 22 j = I 22 j) ∧ ∀ j, j ≠ 9 → I' 67 j = I 67 j
section NZGC
variable {d Ln : Nat} {I : ny_I} {Q : Int32 → ny_I → Prop} {Q0 : ny_I → Prop} {a : ny_a}
theorem q_Pl_valueFrom : ∀ (f : Nat) {k : Nat} {a : ny_a} {I : ny_I} {Q : Int32 → ny_I → Prop}, ny_Ba I a → ny_Mo I (71 + 2 * k) a → ny_V a → k + f ≤ 4 → a 1 + f ≤ a 2 → I 67 3 = nI (k + f) →
    (∀ I', nz_vf k I' I → (k = 0 → 0 < f → I' 67 9 = nI (nz_gv f a k).2) → Q (nI (nz_gv f a k).1) I') → ny_C1 (d + f + 5) m_Pl_valueFrom [.ref 67, .ref 6, .int (nI k)] Ln I Q := by
  intro f
  induction f with
  | zero =>
    intro k a I Q hB hMo hV hk4 hb e3 h
    have := h I ⟨fun _ _ _ _ => rfl, fun _ _ => rfl, fun _ _ => rfl⟩ (fun _ q => absurd q (by omega))
    refine s_Pl_valueFrom_0 ?_
    rw [e3]
    simp (disch := omega) only [ny_lit, nI_add, ny_mul, nI_clamp, ny_le, ny_lt, ny_eq, ny_div, ny_rem, ny_rem2, ny_inN]
    exact ⟨fun _ => this, fun c => absurd c (by omega)⟩
  | succ f ih =>
    intro k a I Q hB hMo hV hk4 hb e3 h
    have v := hV.1
    have key : ∀ m o (s : Nat × Nat) (I2 : ny_I), o + m = a 0 + 1 → s.1 ≤ 85 * (f + 1) → s.2 ≤ 6 → nz_vf k I2 I → (k = 0 → 0 < o → I2 67 9 = nI s.2) →
        nz_lp (fun act s => nz_gs k act (ny_gow a act + (nz_gv f (ny_goa a act) (k + 1)).1) s) o m s = nz_gv (f + 1) a k →
        ny_g (d + f + 6) m_Pl_valueFrom 33 [(0, .ref 67), (1, .ref 6), (2, .int (nI k)), (3, .int (nI (1 - k % 2))), (4, .int (nI s.1)), (5, .int (nI o))] [] Ln I2 (ny_r1 Ln Q) := by
      intro m
      induction m with
      | zero =>
        intro o s I2 ho hs1 hs2 hF hx e
        rw [nz_lp] at e
        refine s_Pl_valueFrom_33 ?_
        rw [hF.1 6 (by decide) (Or.inl (by decide)) (by omega), hB.1.1]
        simp (disch := omega) only [ny_lit, nI_add, ny_mul, nI_clamp, ny_le, ny_lt, ny_eq, ny_div, ny_rem, ny_rem2, ny_inN]
        refine ⟨fun _ => ?_, fun q => absurd q (by omega)⟩
        rw [e]
        exact h I2 hF fun k0 _ => by rw [hx k0 (by omega), e]
      | succ m ihm =>
        intro o s I2 ho hs1 hs2 hF hx e
        rw [nz_lp] at e
        have g := nz_go hV (act := o) (by omega) (by omega)
        have g2 := nz_Sm0 g.2.2.1
        have gb := nz_gv_b f (k := k + 1) g.2.1 (by omega)
        have nb : ∀ q, q = 1 ∨ q = 6 ∨ (9 ≤ q ∧ q ≤ 21) → q ≠ 22 ∧ q ≠ 67 ∧ ¬ (73 + 2 * k ≤ q ∧ q ≤ 80) := fun q hq => by omega
        refine s_Pl_valueFrom_33 ?_
        rw [hF.1 6 (by decide) (Or.inl (by decide)) (by omega), hB.1.1]
        simp (disch := omega) only [ny_lit, nI_add, ny_mul, nI_clamp, ny_le, ny_lt, ny_eq, ny_div, ny_rem, ny_rem2, ny_inN, true_and]
        refine ⟨fun q => absurd q (by omega), fun _ => s_Pl_valueFrom_a49 (by omega) ?_⟩
        simp (disch := omega) only [ny_lit, nI_add, ny_mul, nI_clamp, ny_le, ny_lt, ny_eq, ny_div, ny_rem, ny_rem2, ny_inN, true_and]
        have hMo2 : ny_Mo I2 (71 + 2 * k) a := nz_Mo_q (hF.1 _ (by omega) (by omega) (by omega)) (hF.1 _ (by omega) (by omega) (by omega)) hMo
        refine s_Pl_valueFrom_a59 (by omega) (by omega) (q_Mo_bec (by omega) hMo2 v.1 fun I3 hF3 hM3 => s_Pl_valueFrom_63 (by omega) ?_)
        have hB3 : ny_Ba I3 a := nz_Ba_q (fun q hq => by
          obtain ⟨n1, n2, n3⟩ := nb q hq
          rw [hF3.1 q n1 (by omega) (by omega)]; exact hF.1 q n1 (Or.inl n2) n3) (fun j hj => by rw [hF3.2 j hj]; exact hF.2.1 j hj) (fun _ _ _ _ => rfl) hV hB
        refine q_Ba_goBy (d := d + f + 2) (nz_mk5 (by omega)) hB3 hM3 hV (by omega) fun I4 hF4 hM4 => ?_
        have hB4 : ny_Ba I4 (ny_goa a o) := nz_Ba_mv (nz_mk5 (by omega)) hF4 g.2.2.1 hV hB3
        have e4 : ∀ q, q ≠ 22 → ¬ (73 + 2 * k ≤ q ∧ q ≤ 80) → I4 q = I2 q := fun q x z => by
          rw [hF4.1 q x (by omega) (by omega), hF3.1 q x (by omega) (by omega)]
        have e22 : ∀ j, 5 ≤ j → I4 22 j = I2 22 j := fun j hj => by rw [hF4.2 j hj, hF3.2 j hj]
        have en : nI k + (1 : Int32) = nI (k + 1) := nI_add k 1
        rw [en]
        refine ih (k := k + 1) hB4 hM4 g.2.1 (by omega) (by omega) ?_ fun I5 hF5 _ => ?_
        · rw [e4 67 (by decide) (by omega), hF.2.2 3 (by decide), e3]
          exact congrArg nI (by omega)
        have hF5 : nz_vf k I5 I := ⟨fun q x y z => by rw [hF5.1 q x (by omega) (by omega), e4 q x z]; exact hF.1 q x y z, fun j hj => by rw [hF5.2.1 j hj, e22 j hj]; exact hF.2.1 j hj, fun j hj => by rw [hF5.2.2 j hj, e4 67 (by decide) (by omega)]; exact hF.2.2 j hj⟩
        have h9 : I5 67 9 = I2 67 9 := by rw [‹nz_vf (k + 1) I5 I4›.1 67 (by decide) (Or.inr (by omega)) (by omega), e4 67 (by decide) (by omega)]
        have k2 : k % 2 < 2 := Nat.mod_lt _ (by decide)
        simp (disch := omega) only [ny_lit, nI_add, ny_mul, nI_clamp, ny_le, ny_lt, ny_eq, ny_div, ny_rem, ny_rem2, ny_inN]
        generalize (nz_gv f (ny_goa a o) (k + 1)).1 = w at *
        generalize ny_gow a o = u at *
        have take : (o = 0 ∨ (if k % 2 = 0 then s.1 < u + w else u + w < s.1)) → k ≠ 0 → ny_g (d + f + 6) m_Pl_valueFrom 33 [(0, .ref 67), (1, .ref 6), (2, .int (nI k)), (3, .int (nI (1 - k % 2))), (4, .int (nI (u + w))), (5, .int (nI (o + 1)))] [] Ln I5 (ny_r1 Ln Q) := by
          intro c k0
          unfold nz_gs at e
          rw [if_pos c] at e
          exact ihm (o + 1) (u + w, o) I5 (by omega) (by dsimp only; omega) (by dsimp only; omega) hF5 (fun q => absurd q k0) e
        have take0 : (o = 0 ∨ (if k % 2 = 0 then s.1 < u + w else u + w < s.1)) → k = 0 → ny_g (d + f + 6) m_Pl_valueFrom 33 [(0, .ref 67), (1, .ref 6), (2, .int (nI k)), (3, .int (nI (1 - k % 2))), (4, .int (nI (u + w))), (5, .int (nI (o + 1)))] [] Ln (ny_up I5 67 9 (nI o)) (ny_r1 Ln Q) := by
          intro c k0
          unfold nz_gs at e
          rw [if_pos c] at e
          refine ihm (o + 1) (u + w, o) _ (by omega) (by dsimp only; omega) (by dsimp only; omega) ⟨fun q x y z => ?_, fun j hj => ?_, fun j hj => ?_⟩ (fun _ _ => ?_) e
          · rw [ny_upne _ (by omega)]; exact hF5.1 q x y z
          · rw [ny_upne _ (by decide)]; exact hF5.2.1 j hj
          · simp (disch := omega) only [ny_uprd, if_neg]; exact hF5.2.2 j hj
          · simp (disch := omega) only [ny_uprd, if_true, and_self]
        have skip : 0 < o → ¬ (o = 0 ∨ (if k % 2 = 0 then s.1 < u + w else u + w < s.1)) → ny_g (d + f + 6) m_Pl_valueFrom 33 [(0, .ref 67), (1, .ref 6), (2, .int (nI k)), (3, .int (nI (1 - k % 2))), (4, .int (nI s.1)), (5, .int (nI (o + 1)))] [] Ln I5 (ny_r1 Ln Q) := by
          intro ho0 c
          unfold nz_gs at e
          rw [if_neg c] at e
          exact ihm (o + 1) s I5 (by omega) hs1 hs2 hF5 (fun q _ => by rw [h9]; exact hx q ho0) e
        refine ⟨fun c => ⟨fun k0 => take (Or.inl c) k0, fun k0 => take0 (Or.inl c) k0⟩, fun c => ⟨fun p => ⟨fun c2 => skip (by omega) (by rw [if_neg (by omega)]; omega), fun c2 => ⟨fun k0 => take (by rw [if_neg (by omega)]; omega) k0, fun k0 => take0 (by rw [if_neg (by omega)]; omega) k0⟩⟩, fun p => ⟨fun c2 => skip (by omega) (by rw [if_pos (by omega)]; omega), fun c2 => ⟨fun k0 => take (by rw [if_pos (by omega)]; omega) k0, fun k0 => take0 (by rw [if_pos (by omega)]; omega) k0⟩⟩⟩⟩
    have k2 : k % 2 < 2 := Nat.mod_lt _ (by decide)
    have st := fun x (e : x = 1 - k % 2) => show ny_g (d + f + 6) m_Pl_valueFrom 33 [(0, .ref 67), (1, .ref 6), (2, .int (nI k)), (3, .int (nI x)), (4, .int (nI 0)), (5, .int (nI 0))] [] Ln I (ny_r1 Ln Q) by
      rw [e]
      exact key (a 0 + 1) 0 (0, 0) I (by omega) (by dsimp only; omega) (by decide) ⟨fun _ _ _ _ => rfl, fun _ _ => rfl, fun _ _ => rfl⟩ (fun _ q => absurd q (by omega)) (by rw [nz_gv])
    have ek : nI k - nI (k / 2 * 2) = nI (k % 2) := ny_rem2 (by omega) (by decide)
    refine s_Pl_valueFrom_0 ?_
    rw [e3]
    simp (disch := omega) only [ny_lit, nI_add, ny_mul, nI_clamp, ny_le, ny_lt, ny_eq, ny_div, ny_rem, ny_rem2, ny_inN, ek]
    refine ⟨fun c => absurd c (by omega), fun _ => ⟨fun _ => ⟨fun c => st 0 (by omega), fun c => st 1 (by omega)⟩, fun c => absurd c (by omega)⟩⟩
theorem q_Pl_valueOfGame {n : Nat} (hC : ny_Cl I a) (hV : ny_V a) (hn : n ≤ 4) (h : ∀ I', nz_cp I' I a → (0 < min n (a 2 - a 1) → I' 67 9 = nI (nz_gv (min n (a 2 - a 1)) a 0).2) → Q (nI (nz_gv (min n (a 2 - a 1)) a 0).1) I') : ny_C1 (d + 10) m_Pl_valueOfGame [.ref 67, .ref 6, .int (nI n)] Ln I Q := by
  have v := hV.1
  have hf4 : min n (a 2 - a 1) ≤ 4 := by omega
  refine s_Pl_valueOfGame_0 (q_Pl_start (d := d + 8) hC.1 hC.2.1 hV hn fun I1 hF1 hM1 => ?_)
  have e1 : ∀ q, q ≠ 22 → q ≠ 67 → q ≠ 71 → q ≠ 72 → I1 q = I q := fun q x y z w => by rw [hF1.1 q x z w, ny_upne _ y]
  have e67 : I1 67 3 = nI (min n (a 2 - a 1)) := by
    rw [hF1.1 67 (by decide) (by decide) (by decide)]
    simp (disch := omega) only [ny_uprd, if_true, and_self]
  have := q_Pl_valueFrom (d := d + 4 - min n (a 2 - a 1)) (Ln := Ln) (Q := Q) (min n (a 2 - a 1)) (k := 0) (a := a) (I := ny_up I1 67 9 0)
    (nz_Ba_q (fun q hq => by rw [ny_upne _ (by omega), e1 q (by omega) (by omega) (by omega) (by omega)]) (fun j hj => by rw [ny_upne _ (by decide), hF1.2 j hj, ny_upne _ (by decide)]) (fun _ _ _ _ => rfl) hV hC.1) (nz_Mo_q (ny_upne _ (by decide) _ _) (ny_upne _ (by decide) _ _) hM1) hV (by omega) (by omega) ?_ fun I' hF h9 => h I' ⟨nz_Cl_q hC hV (fun q x y => ?_) (fun j hj => ?_), fun q hq => ?_⟩ (h9 rfl)
  · rw [show d + 4 - min n (a 2 - a 1) + min n (a 2 - a 1) + 5 = d + 9 by omega] at this
    exact this
  · simp (disch := omega) only [ny_uprd, if_neg]
    rw [Nat.zero_add]; exact e67
  · rw [hF.1 q y (Or.inl (by omega)) (by omega), ny_upne _ (by omega), e1 q y (by omega) (by omega) (by omega)]
  · rw [hF.2.1 j hj, ny_upne _ (by decide), hF1.2 j hj, ny_upne _ (by decide)]
  · rw [hF.1 q (by omega) (Or.inl (by omega)) (by omega), ny_upne _ (by omega), e1 q (by omega) (by omega) (by omega) (by omega)]
theorem q_No_game {x : Int32} (hC : ny_Cl I a) (hV : ny_V a) (h : ∀ I', nz_cp I' I a → Q (o_game x a) I') : ny_C1 (d + 11) m_No_game [.ref 5, .int x] Ln I Q := by
  refine s_No_game_0 (q_No_I 1 4 rfl rfl (by decide) (by decide) (fun n en hn1 hn ex => ⟨fun q => absurd q (by decide), fun _ => ?_⟩) fun en => ⟨fun _ => ?_, fun q => absurd rfl q⟩)
  · subst ex
    simp only [o_game, en] at h
    exact q_Pl_valueOfGame hC hV hn fun I' hF _ => h I' hF
  · simp only [o_game, en] at h
    rw [ny_m1]; exact h I (nz_cp_r hC)
theorem q_No_play {x : Int32} (hC : ny_Cl I a) (hV : ny_V a) (h : ∀ I', nz_cp I' I a → Q (o_play x a) I') : ny_C1 (d + 11) m_No_play [.ref 5, .int x] Ln I Q := by
  have r := h I (nz_cp_r hC)
  refine s_No_play_0 (q_No_I 1 4 rfl rfl (by decide) (by decide) (fun n en hn1 hn ex => ⟨fun _ => q_Ba_isOver nz_m7 hC.1 hC.2.1 hV ?_, fun q => absurd q (by decide)⟩) fun en => ⟨fun q => absurd rfl q, fun _ => ?_⟩)
  · subst ex
    simp only [o_play, en] at h r
    by_cases c : a 2 ≤ a 1
    · rw [if_pos c] at r ⊢
      exact ⟨fun q => absurd q (by decide), fun _ => by rw [ny_m3]; exact r⟩
    · simp only [if_neg c] at h ⊢
      refine ⟨fun _ => q_Pl_valueOfGame hC hV hn fun I' hF h9 => ?_, fun q => absurd rfl q⟩
      have := h I' hF
      rw [h9 (by omega)]; exact this
  · simp only [o_play, en] at r
    rw [ny_m1]; exact r
end NZGC
