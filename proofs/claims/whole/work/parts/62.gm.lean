/-! both: a game, play -/
/-- value and the least act that comes to it -/
def nz_gs (k act v : Nat) (s : Nat × Nat) : Nat × Nat := if act = 0 ∨ (if k % 2 = 0 then s.1 < v else v < s.1) then (v, act) else s
def nz_gv : Nat → ny_a → Nat → Nat × Nat
  | 0, _, _ => (0, 0)
  | f + 1, a, k => nz_lp (fun act s => nz_gs k act (ny_gow a act + (nz_gv f (ny_goa a act) (k + 1)).1) s) 0 (a 0 + 1) (0, 0)
def o_game (x : Int32) (a : ny_a) : Int32 := match nz_in 1 4 x with
  | some n => nI (nz_gv (min n (a 2 - a 1)) a 0).1
  | none => nI 4294967295
def o_play (x : Int32) (a : ny_a) : Int32 := match nz_in 1 4 x with
  | some n => if a 2 ≤ a 1 then nI 4294967293 else nI (nz_gv (min n (a 2 - a 1)) a 0).2
  | none => nI 4294967295
theorem nz_gs_c (k act v : Nat) (s : Nat × Nat) : nz_gs k act v s = (v, act) ∨ nz_gs k act v s = s := by
  unfold nz_gs
  by_cases c : act = 0 ∨ (if k % 2 = 0 then s.1 < v else v < s.1)
  · exact Or.inl (if_pos c)
  · exact Or.inr (if_neg c)
theorem nz_gv_b : ∀ f {a : ny_a} {k : Nat}, ny_V a → a 1 + f ≤ a 2 → (nz_gv f a k).1 ≤ 85 * f ∧ (nz_gv f a k).2 ≤ 6 := by
  intro f
  induction f with
  | zero => intro a k _ _; exact ⟨Nat.le_refl _, Nat.zero_le _⟩
  | succ f ih =>
    intro a k hV hb
    have v := hV.1
    rw [nz_gv]
    have key : ∀ n o (s : Nat × Nat), o + n = a 0 + 1 → s.1 ≤ 85 * (f + 1) ∧ s.2 ≤ 6 → (nz_lp (fun act s => nz_gs k act (ny_gow a act + (nz_gv f (ny_goa a act) (k + 1)).1) s) o n s).1 ≤ 85 * (f + 1) ∧ (nz_lp (fun act s => nz_gs k act (ny_gow a act + (nz_gv f (ny_goa a act) (k + 1)).1) s) o n s).2 ≤ 6 := by
      intro n
      induction n with
      | zero => intro o s _ h; rw [nz_lp]; exact h
      | succ n ihn =>
        intro o s ho h
        have g := nz_go hV (act := o) (by omega) (by omega)
        have g2 := nz_Sm0 g.2.2.1
        have := ih (k := k + 1) g.2.1 (by omega)
        rw [nz_lp]
        refine ihn (o + 1) _ (by omega) ?_
        rcases nz_gs_c k o (ny_gow a o + (nz_gv f (ny_goa a o) (k + 1)).1) s with e | e
        · rw [e]; exact ⟨by dsimp only; omega, by dsimp only; omega⟩
        · rw [e]; exact h
    exact key (a 0 + 1) 0 (0, 0) (by omega) ⟨by dsimp only; omega, by decide⟩
section NZGA
variable {d Ln : Nat} {I : ny_I} {Q : Int32 → ny_I → Prop} {Q0 : ny_I → Prop} {a : ny_a}
/-- what the model's game changes -/
def nz_gf (k : Nat) (I' I : ny_I) (a : ny_a) : Prop := ny_Md I' a ∧ (∀ c, c ≠ 102 → c ≠ 103 → c ≠ 105 → I' c = I c) ∧ (∀ j, j ≠ 21 → I' 102 j = I 102 j) ∧ (∀ j, j < 38 * k → I' 105 j = I 105 j)
theorem q_Md_valueFrom : ∀ (f : Nat) {k n : Nat} {a : ny_a} {I : ny_I} {Q : Int32 → ny_I → Prop}, ny_Md I a → ny_V a → f = min (n - k) (a 2 - a 1) → k ≤ n → n ≤ 4 →
    (∀ I', nz_gf k I' I a → (0 < f → I' 102 21 = nI (nz_gv f a k).2) → Q (nI (nz_gv f a k).1) I') → ny_C1 (d + f + 5) m_Md_valueFrom [.ref 102, .int (nI k), .int (nI n)] Ln I Q := by
  intro f
  induction f with
  | zero =>
    intro k n a I Q ha hV hf hk hn h
    have v := hV.1
    have := h I ⟨ha, fun _ _ _ _ => rfl, fun _ _ => rfl, fun _ _ => rfl⟩ (fun q => absurd q (by omega))
    refine s_Md_valueFrom_0 ?_
    simp (disch := omega) only [ny_lit, nI_add, ny_mul, nI_clamp, ny_le, ny_lt, ny_eq, ny_div, ny_rem, ny_rem2, ny_inN]
    refine ⟨fun _ => this, fun c => q_Md_isOver ha hV ?_⟩
    rw [if_pos (by omega)]
    exact ⟨fun q => absurd q (by decide), fun _ => this⟩
  | succ f ih =>
    intro k n a I Q ha hV hf hk hn h
    have v := hV.1
    have hb := nz_gv_b (f + 1) (k := k) hV (by omega)
    refine s_Md_valueFrom_0 ?_
    simp (disch := omega) only [ny_lit, nI_add, ny_mul, nI_clamp, ny_le, ny_lt, ny_eq, ny_div, ny_rem, ny_rem2, ny_inN]
    refine ⟨fun c => absurd c (by omega), fun _ => q_Md_isOver ha hV ?_⟩
    rw [if_neg (by omega)]
    refine ⟨fun _ => q_Md_laysAside ha (by omega) fun I1 ha1 hA1 => ?_, fun q => absurd rfl q⟩
    have key : ∀ m o (s : Nat × Nat) (x4 : Int32) (I2 : ny_I), o + m = a 0 + 1 → s.1 ≤ 85 * (f + 1) → s.2 ≤ 6 → (o = 0 ∧ x4 = nI 4294967295 ∨ 0 < o ∧ x4 = nI s.2) → nz_gf k I2 I a → (∀ j, j < 38 → I2 105 (38 * k + j) = nI (a j)) →
        nz_lp (fun act s => nz_gs k act (ny_gow a act + (nz_gv f (ny_goa a act) (k + 1)).1) s) o m s = nz_gv (f + 1) a k →
        ny_g (d + f + 6) m_Md_valueFrom 27 [(0, .ref 102), (1, .int (nI k)), (2, .int (nI n)), (3, .int (nI s.1)), (4, .int x4), (5, .int (nI o))] [] Ln I2 (ny_r1 Ln Q) := by
      intro m
      induction m with
      | zero =>
        intro o s x4 I2 ho hs1 hs2 hx hF hB e
        rw [nz_lp] at e
        refine s_Md_valueFrom_27 ?_
        simp (disch := omega) only [ny_lit, nI_add, ny_mul, nI_clamp, ny_le, ny_lt, ny_eq, ny_div, ny_rem, ny_rem2, ny_inN, hF.1 _, true_and]
        refine ⟨fun _ => ?_, fun q => absurd q (by omega)⟩
        rw [e]
        refine h _ ⟨fun j => by rw [ny_upne _ (by decide)]; exact hF.1 j, fun c x y z => by rw [ny_upne _ x]; exact hF.2.1 c x y z, fun j hj => ?_, fun j hj => by rw [ny_upne _ (by decide)]; exact hF.2.2.2 j hj⟩ fun _ => ?_
        · simp (disch := omega) only [ny_uprd, if_neg]; exact hF.2.2.1 j hj
        · simp (disch := omega) only [ny_uprd, if_true, and_self]
          rcases hx with ⟨h1, -⟩ | ⟨-, h2⟩
          · omega
          · rw [h2, e]
      | succ m ihm =>
        intro o s x4 I2 ho hs1 hs2 hx hF hB e
        rw [nz_lp] at e
        have g := nz_go hV (act := o) (by omega) (by omega)
        have g2 := nz_Sm0 g.2.2.1
        have gb := nz_gv_b f (k := k + 1) g.2.1 (by omega)
        refine s_Md_valueFrom_27 ?_
        simp (disch := omega) only [ny_lit, nI_add, ny_mul, nI_clamp, ny_le, ny_lt, ny_eq, ny_div, ny_rem, ny_rem2, ny_inN, hF.1 _, true_and]
        refine ⟨fun q => absurd q (by omega), fun _ => q_Md_goesWith (d := d + f + 1) (a := a) hF.1 hV (by omega) fun I3 h3 h3o => ?_⟩
        refine ih (k := k + 1) h3 g.2.1 (by omega) (by omega) hn fun I4 hF4 _ => ?_
        have hB4 : ∀ j, j < 38 → I4 105 (38 * k + j) = nI (a j) := fun j hj => by
          rw [hF4.2.2.2 _ (by omega), h3o 105 (by decide)]; exact hB j hj
        refine q_Md_laysBack (I0 := I4) (a := a) hF4.1 (by omega) g2.2.2 ⟨fun _ _ _ => rfl, hB4, fun _ _ => rfl⟩ fun I5 hA5 h105 => ?_
        have hc : ∀ c, c ≠ 103 → I5 c = I4 c := fun c x => by
          by_cases y : c = 105
          · subst y; funext j; exact h105 j
          · exact hA5.2.1 c x y
        have hF5 : nz_gf k I5 I a := ⟨hA5.1, fun c x y z => by rw [hc c y, hF4.2.1 c x y z, h3o c y]; exact hF.2.1 c x y z, fun j hj => by rw [hc 102 (by decide), hF4.2.2.1 j hj, h3o 102 (by decide)]; exact hF.2.2.1 j hj, fun j hj => by rw [hc 105 (by decide), hF4.2.2.2 j (by omega), h3o 105 (by decide)]; exact hF.2.2.2 j hj⟩
        have hB5 : ∀ j, j < 38 → I5 105 (38 * k + j) = nI (a j) := fun j hj => by rw [h105]; exact hB4 j hj
        have ek : nI k - nI (k / 2 * 2) = nI (k % 2) := ny_rem2 (by omega) (by decide)
        have k2 : k % 2 < 2 := Nat.mod_lt _ (by decide)
        simp (disch := omega) only [ny_lit, nI_add, ny_mul, nI_clamp, ny_le, ny_lt, ny_eq, ny_div, ny_rem, ny_rem2, ny_inN, ek]
        generalize (nz_gv f (ny_goa a o) (k + 1)).1 = w at *
        generalize ny_gow a o = u at *
        have take : (o = 0 ∨ (if k % 2 = 0 then s.1 < u + w else u + w < s.1)) → ny_g (d + f + 6) m_Md_valueFrom 27 [(0, .ref 102), (1, .int (nI k)), (2, .int (nI n)), (3, .int (nI (u + w))), (4, .int (nI o)), (5, .int (nI (o + 1)))] [] Ln I5 (ny_r1 Ln Q) := by
          intro c
          unfold nz_gs at e
          rw [if_pos c] at e
          exact ihm (o + 1) (u + w, o) (nI o) I5 (by omega) (by dsimp only; omega) (by dsimp only; omega) (Or.inr ⟨by omega, rfl⟩) hF5 hB5 e
        have skip : 0 < o → ¬ (o = 0 ∨ (if k % 2 = 0 then s.1 < u + w else u + w < s.1)) → ny_g (d + f + 6) m_Md_valueFrom 27 [(0, .ref 102), (1, .int (nI k)), (2, .int (nI n)), (3, .int (nI s.1)), (4, .int x4), (5, .int (nI (o + 1)))] [] Ln I5 (ny_r1 Ln Q) := by
          intro ho0 c
          unfold nz_gs at e
          rw [if_neg c] at e
          refine ihm (o + 1) s x4 I5 (by omega) hs1 hs2 (Or.inr ⟨by omega, ?_⟩) hF5 hB5 e
          rcases hx with ⟨h1, -⟩ | ⟨-, h2⟩
          · omega
          · exact h2
        rcases hx with ⟨h1, h2⟩ | ⟨h1, h2⟩
        · refine ⟨fun _ => take (Or.inl h1), fun q => absurd ?_ q⟩
          rw [h2]; decide +kernel
        · refine ⟨fun q => ?_, fun _ => ⟨fun c => ⟨fun c2 => ?_, fun c2 => ?_⟩, fun c => ⟨fun c2 => ?_, fun c2 => ?_⟩⟩⟩
          · rw [h2, ny_lt (b := 0) (by omega) (by decide)] at q; omega
          · exact skip h1 (by rw [if_neg (by omega)]; omega)
          · exact take (by rw [if_neg (by omega)]; omega)
          · exact skip h1 (by rw [if_pos (by omega)]; omega)
          · exact take (by rw [if_pos (by omega)]; omega)
    exact key (a 0 + 1) 0 (0, 0) _ I1 (by omega) (by dsimp only; omega) (by decide) (Or.inl ⟨rfl, ny_m1⟩) ⟨ha1, fun c _ x y => hA1.1 c x y, fun j _ => by rw [hA1.1 102 (by decide) (by decide)], fun j hj => hA1.2.2 j (by omega)⟩ hA1.2.1 (by rw [nz_gv])
theorem q_Md_game {x : Int32} (ha : ny_Md I a) (hV : ny_V a) (h : ∀ I', nz_gf 0 I' I a → Q (o_game x a) I') : ny_C1 (d + 10) m_Md_game [.ref 102, .int x] Ln I Q := by
  refine s_Md_game_0 (q_Md_I 1 4 rfl rfl (by decide) (by decide) (fun n en hn1 hn ex => ⟨fun q => absurd q (by decide), fun _ => ?_⟩) fun en => ⟨fun _ => ?_, fun q => absurd rfl q⟩)
  · subst ex
    simp only [o_game, en] at h
    have := q_Md_valueFrom (d := d + 4 - min n (a 2 - a 1)) (Ln := Ln) (Q := Q) (min n (a 2 - a 1)) (k := 0) (n := n) ha hV rfl (by omega) hn fun I' hF _ => h I' hF
    rw [show d + 4 - min n (a 2 - a 1) + min n (a 2 - a 1) + 5 = d + 9 by omega] at this
    exact this
  · simp only [o_game, en] at h
    rw [ny_m1]; exact h I ⟨ha, fun _ _ _ _ => rfl, fun _ _ => rfl, fun _ _ => rfl⟩
theorem q_Md_play {x : Int32} (ha : ny_Md I a) (hV : ny_V a) (h : ∀ I', nz_gf 0 I' I a → Q (o_play x a) I') : ny_C1 (d + 10) m_Md_play [.ref 102, .int x] Ln I Q := by
  have r := h I ⟨ha, fun _ _ _ _ => rfl, fun _ _ => rfl, fun _ _ => rfl⟩
  refine s_Md_play_0 (q_Md_I 1 4 rfl rfl (by decide) (by decide) (fun n en hn1 hn ex => ⟨fun _ => q_Md_isOver ha hV ?_, fun q => absurd q (by decide)⟩) fun en => ⟨fun q => absurd rfl q, fun _ => ?_⟩)
  · subst ex
    simp only [o_play, en] at h r
    by_cases c : a 2 ≤ a 1
    · rw [if_pos c] at r ⊢
      exact ⟨fun q => absurd q (by decide), fun _ => by rw [ny_m3]; exact r⟩
    · simp only [if_neg c] at h ⊢
      refine ⟨fun _ => ?_, fun q => absurd rfl q⟩
      have := q_Md_valueFrom (d := d + 4 - min n (a 2 - a 1)) (Ln := Ln) (Q := fun _ I5 => Q (I5 102 21) I5) (min n (a 2 - a 1)) (k := 0) (n := n) ha hV rfl (by omega) hn fun I' hF h21 => by
        have := h I' hF
        rw [h21 (by omega)]; exact this
      rw [show d + 4 - min n (a 2 - a 1) + min n (a 2 - a 1) + 5 = d + 9 by omega] at this
      exact this
  · simp only [o_play, en] at r
    rw [ny_m1]; exact r
end NZGA
