/-! the statics at the start -/
section UST
variable {b : Addr} {s : State} {A : Nat → Prop}
theorem u_eqi {tm : Term} {z : Int32} (h : (Cond.eq tm (.int z)).before #[Value.ref b] s = true) : tm.eval #[Value.ref b] s none [] s = some (.int z) := Cond.eq_int h rfl
theorem u_compact (hts : ∀ w ∈ lw_tbl, w.before #[Value.ref b] s = true) (hgv : (Jvm.Cond.and given_1 narrow_1).before #[Value.ref b] s = true) (hA : ∀ a : Nat, a < s.heap.size → ¬ A a) : va_Z "java/lang/String" "COMPACT_STRINGS" "Z" (.int 1) A s s.heap :=
  va_Zof (hts (.laysStatic "java/lang/String" "COMPACT_STRINGS" "Z") (by decide +kernel)) (hts (.initialized "java/lang/String") (by decide +kernel)) (va_eqi (flat_of_before _ hgv _ (by decide +kernel))) hA
theorem u_above (hts : ∀ w ∈ lw_tbl, w.before #[Value.ref b] s = true) (hgv : (Jvm.Cond.and given_1 narrow_1).before #[Value.ref b] s = true) (hA : ∀ a : Nat, a < s.heap.size → ¬ A a) : ∃ t : Nat, va_Z "NymphRota$Kinds" "ABOVE" "[I" (.ref t) A s s.heap ∧ va_T .int t 6 (fun j => .int (ny_ab j)) A s s.heap := by
  have hs := flat_of_before _ hgv
  obtain ⟨t, h1, h2⟩ := va_Tof (tm := .static "NymphRota$Kinds" "ABOVE" "[I") (ty := .int) (N := 6) (f := fun j => .int (ny_ab j)) (A := A) (args := #[Value.ref b]) (s := s) (by decide) (hs _ (by decide +kernel)) (u_eqi (hs _ (by decide +kernel))) (fun j hj => by
    have hc : j = 0 ∨ j = 1 ∨ j = 2 ∨ j = 3 ∨ j = 4 ∨ j = 5 := by omega
    rcases hc with rfl | rfl | rfl | rfl | rfl | rfl
    · exact u_eqi (z := -1) (hs _ (by decide +kernel))
    · exact u_eqi (z := 0) (hs _ (by decide +kernel))
    · exact u_eqi (z := 0) (hs _ (by decide +kernel))
    · exact u_eqi (z := 2) (hs _ (by decide +kernel))
    · exact u_eqi (z := 0) (hs _ (by decide +kernel))
    · exact u_eqi (z := 4) (hs _ (by decide +kernel))) hA
  exact ⟨t, va_Zref (hts (.laysStatic "NymphRota$Kinds" "ABOVE" "[I") (by decide +kernel)) (hts (.initialized "NymphRota$Kinds") (by decide +kernel)) h1 hA, h2⟩
theorem u_sio (hts : ∀ w ∈ lw_tbl, w.before #[Value.ref b] s = true) (hgv : (Jvm.Cond.and given_1 narrow_1).before #[Value.ref b] s = true) (hA : ∀ a : Nat, a < s.heap.size → ¬ A a) : ∃ fm : Option Nat, va_Z "jdk/internal/util/Preconditions" "SIOOBE_FORMATTER" "Ljava/util/function/BiFunction;" (va_rf fm) A s s.heap := by
  have h : (Cond.isRef (.static "jdk/internal/util/Preconditions" "SIOOBE_FORMATTER" "Ljava/util/function/BiFunction;")).before #[Value.ref b] s = true := flat_of_before _ hgv _ (by decide +kernel)
  have key : ∃ fm : Option Nat, (Term.static "jdk/internal/util/Preconditions" "SIOOBE_FORMATTER" "Ljava/util/function/BiFunction;").eval #[Value.ref b] s none [] s = some (va_rf fm) := by
    cases hv : (Term.static "jdk/internal/util/Preconditions" "SIOOBE_FORMATTER" "Ljava/util/function/BiFunction;").eval #[Value.ref b] s none [] s with
    | none => simp [Cond.before, Cond.holds, Cond.value, hv] at h
    | some w =>
      simp only [Cond.before, Cond.holds, Cond.value, hv] at h
      cases w with
      | ref a => exact ⟨some a, rfl⟩
      | null => exact ⟨none, rfl⟩
      | _ => simp_all
  obtain ⟨fm, hfm⟩ := key
  exact ⟨fm, va_Zof (hts (.laysStatic "jdk/internal/util/Preconditions" "SIOOBE_FORMATTER" "Ljava/util/function/BiFunction;") (by decide +kernel)) (hts (.initialized "jdk/internal/util/Preconditions") (by decide +kernel)) hfm hA⟩
end UST
