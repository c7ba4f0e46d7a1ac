/-! the classes of arrays at the start -/
section UAR
variable {args : Array Value} {s : State}
theorem u_arri (h : (Cond.arrayClass .int).before args s = true) : ∃ cA : ClassId, ArrOfT s cA .int ∧ va_RA s cA .int := by
  obtain ⟨cA, kA, comp, h1, h2, h3⟩ := Cond.arrayClass_spec h
  exact ⟨cA, fun n z => ⟨fun k h => (by cases h), kA, h2, comp, h3⟩, h1⟩
theorem u_arrb (h : (Cond.arrayClass .byte).before args s = true) : ∃ cA : ClassId, ArrOfT s cA .byte ∧ va_RA s cA .byte := by
  obtain ⟨cA, kA, comp, h1, h2, h3⟩ := Cond.arrayClass_spec h
  exact ⟨cA, fun n z => ⟨fun k h => (by cases h), kA, h2, comp, h3⟩, h1⟩
theorem u_arro {C : String} (h : (Cond.arrayOver (.object C)).before args s = true) : ∃ cA : ClassId, ArrOfT s cA (.object C) ∧ va_RA s cA (.object C) := by
  obtain ⟨comp, cA, kA, f1, f2, f3, f4, f5⟩ := Cond.arrayOver_spec h
  exact ⟨cA, fun n z => ⟨fun k h => (by cases h), kA, f3, comp, f4⟩, kA, comp, f3, f4, f1, f5⟩
theorem u_arra (h : (Cond.arrayOver (.array .int)).before args s = true) : ∃ cA : ClassId, ArrOfT s cA (.array .int) ∧ va_RA s cA (.array .int) := by
  obtain ⟨comp, cA, kA, f1, f2, f3, f4, f5⟩ := arrayOverA_spec h
  exact ⟨cA, fun n z => ⟨fun k h => (by cases h), kA, f3, comp, f4⟩, f5⟩
theorem u_tys (hts : ∀ w ∈ lw_tbl, w.before args s = true) : ∃ f : Nat → ClassId, ∀ (k : Nat) (q : ClassId × FieldType), ([(f 0, .int), (f 1, .byte), (f 2, .object "NymphRota$Moment"), (f 3, .object "NymphRota$Sheet"), (f 4, .object "NymphRota$Shelf"), (f 5, .array .int)] : List (ClassId × FieldType))[k]? = some q → ArrOfT s q.1 q.2 ∧ va_RA s q.1 q.2 := by
  obtain ⟨c0, h0⟩ := u_arri (s := s) (args := args) (hts _ (by decide +kernel))
  obtain ⟨c1, h1⟩ := u_arrb (s := s) (args := args) (hts _ (by decide +kernel))
  obtain ⟨c2, h2⟩ := u_arro (s := s) (args := args) (C := "NymphRota$Moment") (hts _ (by decide +kernel))
  obtain ⟨c3, h3⟩ := u_arro (s := s) (args := args) (C := "NymphRota$Sheet") (hts _ (by decide +kernel))
  obtain ⟨c4, h4⟩ := u_arro (s := s) (args := args) (C := "NymphRota$Shelf") (hts _ (by decide +kernel))
  obtain ⟨c5, h5⟩ := u_arra (s := s) (args := args) (hts _ (by decide +kernel))
  refine ⟨fun k => [c0, c1, c2, c3, c4, c5].getD k 0, fun k q hq => ?_⟩
  match k, hq with
  | 0, hq => cases hq; exact h0
  | 1, hq => cases hq; exact h1
  | 2, hq => cases hq; exact h2
  | 3, hq => cases hq; exact h3
  | 4, hq => cases hq; exact h4
  | 5, hq => cases hq; exact h5
  | k + 6, hq => exact absurd hq (by simp)
end UAR
