/-! the memory behind the constructors holds what holds between two calls -/
def ny_a0 : ny_a := fun j => if j = 2 then 12 else if j = 4 then 1 else if 50 ≤ j ∧ j < 66 then 5 else 0
def ny_j2 (p q : Nat) (x y : Int32) (j : Nat) : Int32 := if j = p then x else if j = q then y else 0
/-- what the cells hold then -/
def ny_i0 (c j : Nat) : Int32 := match c with
  | 6 => ny_j2 8 10 12 1 j
  | 12 => if j < 16 then 5 else 0
  | 15 => ny_j2 8 8 5 5 j
  | 23 => ny_j2 9 9 (-3) (-3) j
  | 30 => ny_j2 8 10 12 1 j
  | 36 => if j < 16 then 5 else 0
  | 39 => ny_j2 8 8 5 5 j
  | 47 => ny_j2 9 9 (-3) (-3) j
  | 54 => ny_j2 7 7 19 19 j
  | 59 => ny_j2 8 8 5 5 j
  | 67 => ny_j2 7 7 (-3) (-3) j
  | 90 => ny_j2 0 0 (-1) (-1) j
  | 92 => ny_j2 0 0 (-1) (-1) j
  | 94 => ny_j2 0 0 (-1) (-1) j
  | 96 => ny_j2 0 0 (-1) (-1) j
  | 98 => ny_j2 0 1 (-3) (-1) j
  | 99 => ny_j2 0 1 (-3) (-1) j
  | 100 => ny_j2 0 1 (-3) (-1) j
  | 101 => ny_j2 0 1 (-3) (-1) j
  | 103 => nI (ny_a0 j)
  | 113 => if j < 4 then -1 else 0
  | _ => 0
theorem ny_a0_V : ny_V ny_a0 := by
  refine ⟨by decide, fun k hk => ?_, fun k hk => absurd hk (by show ¬ k < 0; omega), fun f hf => ?_, fun b hb => ?_, fun r hr => absurd hr (by show ¬ r < 0; omega), fun r hr => absurd hr (by show ¬ r < 0; omega), fun r hr => absurd hr (by show ¬ r < 0; omega)⟩
  · have : ∀ k, k < 6 → ny_a0 (8 + 5 * k) ≤ 5 ∧ ny_a0 (9 + 5 * k) ≤ 99 ∧ ny_a0 (10 + 5 * k) ≤ 9 ∧ ny_a0 (11 + 5 * k) ≤ 5 ∧ ny_a0 (12 + 5 * k) ≤ 1 := by decide +kernel
    exact this k hk
  · have : ∀ f, f < 6 → ny_a0 (38 + f) ≤ 9 ∧ ny_a0 (44 + f) ≤ 9 := by decide +kernel
    exact this f hf
  · have : ∀ b, b < 16 → ny_a0 (50 + b) ≤ 15 := by decide +kernel
    exact this b hb
theorem nv_init {I : ny_I} (h1 : I 1 = ny_ab) (h2 : I 2 0 = 0) (h3 : I 3 = ny_by) (h : ∀ c j, 5 ≤ c → c < 120 → I c j = ny_i0 c j) : nv I := by
  have g : ∀ c j, 5 ≤ c → c < 120 → ∀ x, ny_i0 c j = x → I c j = x := fun c j x y z e => (h c j x y).trans e
  refine ⟨ny_a0, ny_a0, 0, 0, fun _ => 0, 0, fun _ _ => 0, (fun _ => 5, fun _ => 0, fun _ _ => 0), (fun _ => 0, fun _ => 0, fun _ => 0), (0, fun _ => 0), ny_a0_V, ⟨ny_a0_V, by decide, ⟨by decide, fun j hj => absurd hj (by omega)⟩, by decide, fun t _ => ⟨Nat.le_refl _, Nat.zero_le _⟩, fun t _ => ⟨Nat.zero_le _, fun q => absurd (show (0 : Nat) = 1 from q) (by decide), fun q => absurd (show (0 : Nat) = 2 from q) (by decide)⟩⟩, ?_, ?_, fun j => g 103 j (by decide) (by decide) _ rfl, ?_⟩
  · refine ⟨⟨⟨g 6 4 (by decide) (by decide) _ (by decide +kernel), g 6 8 (by decide) (by decide) _ (by decide +kernel)⟩, fun k hk => absurd hk (by show ¬ k < 0; omega), fun f hf => ⟨?_, ?_⟩, fun b hb => ?_, ⟨g 15 0 (by decide) (by decide) _ (by decide +kernel), g 15 4 (by decide) (by decide) _ (by decide +kernel)⟩, fun r hr => absurd hr (by show ¬ r < 0; omega), fun i hi => absurd hi (by show ¬ i < 0; omega), h1⟩, ⟨g 7 2 (by decide) (by decide) _ (by decide +kernel), fun k hk => absurd hk (by show ¬ k < 0; omega), 0, by decide, g 7 1 (by decide) (by decide) _ (by decide +kernel), fun k hk => ?_⟩, ⟨g 6 9 (by decide) (by decide) _ (by decide +kernel), g 6 10 (by decide) (by decide) _ (by decide +kernel)⟩, g 23 0 (by decide) (by decide) _ (by decide +kernel), fun r hr => absurd hr (by show ¬ r < 0; omega)⟩
    · have : ∀ f, f < 6 → ny_i0 13 f = nI (ny_a0 (38 + f)) := by decide +kernel
      exact g 13 f (by decide) (by decide) _ (this f hf)
    · have : ∀ f, f < 6 → ny_i0 14 f = nI (ny_a0 (44 + f)) := by decide +kernel
      exact g 14 f (by decide) (by decide) _ (this f hf)
    · have : ∀ f, f < 16 → ny_i0 12 f = nI (ny_a0 (50 + f)) := by decide +kernel
      exact g 12 b (by decide) (by decide) _ (this b hb)
    · have : ¬ (k < ny_a0 0 ∧ ny_a0 (12 + 5 * k) = 1) := fun q => absurd q.1 (by show ¬ k < 0; omega)
      rw [decide_eq_false this]
      exact Nat.zero_testBit k
  · refine ⟨⟨g 5 2 (by decide) (by decide) _ (by decide +kernel), fun q => absurd q (by decide)⟩, ⟨g 54 1 (by decide) (by decide) _ (by decide +kernel), fun j hj => absurd hj (by omega)⟩, ⟨g 5 6 (by decide) (by decide) _ (by decide +kernel), fun k hk => absurd hk (by omega)⟩, fun t ht => ⟨?_, ?_, fun i hi => ?_⟩, fun t ht => ⟨?_, ?_, fun q => absurd (show (0 : Nat) = 2 from q) (by decide)⟩, ⟨g 88 1 (by decide) (by decide) _ (by decide +kernel), fun j hj => absurd hj (by show ¬ j < 0; omega)⟩, h2, h3⟩
    · have : ∀ t, t < 4 → ny_i0 (90 + 2 * t) 0 = nz_sv 5 := by decide +kernel
      exact g _ _ (by omega) (by omega) _ (this t ht)
    · have : ∀ t, t < 4 → ny_i0 (90 + 2 * t) 1 = nI 0 := by decide +kernel
      exact g _ _ (by omega) (by omega) _ (this t ht)
    · have : ∀ t, t < 4 → ∀ i, i < 40 → ny_i0 (91 + 2 * t) i = 0 := by decide +kernel
      exact g _ _ (by omega) (by omega) _ (this t ht i hi)
    · have : ∀ t, t < 4 → ny_i0 (98 + t) 0 = nI 4294967293 := by decide +kernel
      exact g _ _ (by omega) (by omega) _ (this t ht)
    · have : ∀ t, t < 4 → ny_i0 (98 + t) 1 = nI 4294967295 := by decide +kernel
      exact g _ _ (by omega) (by omega) _ (this t ht)
  · refine ⟨⟨g 102 2 (by decide) (by decide) _ (by decide +kernel), fun q => absurd q (by decide)⟩, ⟨g 102 5 (by decide) (by decide) _ (by decide +kernel), fun j hj => absurd hj (by omega)⟩, ⟨g 102 27 (by decide) (by decide) _ (by decide +kernel), fun k hk => absurd hk (by omega)⟩, fun t ht => ⟨?_, ?_, fun i hi => ?_⟩, fun t ht => ⟨?_, fun q => absurd rfl q, fun q => absurd (show (0 : Nat) = 2 from q) (by decide)⟩, ⟨g 102 35 (by decide) (by decide) _ (by decide +kernel), fun j hj => absurd hj (by show ¬ j < 0; omega)⟩⟩
    · have : ∀ t, t < 4 → ny_i0 113 t = nz_sv 5 := by decide +kernel
      exact g _ _ (by omega) (by omega) _ (this t ht)
    · have : ∀ t, t < 4 → ny_i0 114 t = nI 0 := by decide +kernel
      exact g _ _ (by omega) (by omega) _ (this t ht)
    · exact g 115 _ (by decide) (by decide) _ rfl
    · have : ∀ t, t < 4 → ny_i0 116 t = nI 0 := by decide +kernel
      exact g _ _ (by omega) (by omega) _ (this t ht)
