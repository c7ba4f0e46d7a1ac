/-! a method's walk over the memory: from a place of its code, to its end -/
abbrev ny_Q : Type := Option Value → ny_K → ny_I → ny_R → Prop
/-- the end that stands at pc gives v back -/
def ny_rt (y : ny_M) (pc : Nat) (v : Option Value) : Prop := match v with
  | none => decode y.2.1 pc = .ok (.return_, 1) ∧ y.2.2.2.1 = none
  | some (.int x) => decode y.2.1 pc = .ok (.ireturn, 1) ∧ ∃ ty, y.2.2.2.1 = some ty ∧ narrow ty (.int x) = .int x
  | some (.ref a) => decode y.2.1 pc = .ok (.areturn, 1) ∧ a ≠ 4 ∧ ∃ nm, y.2.2.2.1 = some (.object nm)
  | _ => False
def ny_G (d mc ms : Nat) (y : ny_M) (pc : Nat) (L : ny_Lc) (S : List Value) (K : ny_K) (I : ny_I) (R : ny_R) (k n : Nat) (Ret : ny_Q) : Prop :=
  ∀ (p : Program) (l : Launch) (e : Env) (Rm : Room) (s : State) (m : MethodId) (args : Array Value) (below : List Frame) (meth : Method) (c : Code) (H : Heap) (locs : List Loc) (ls : Array Slot) (Q : State → Prop) (E : ny_E),
    ny_C E p s m args meth c y Rm d mc ms → k ≤ mc → n ≤ ms → ny_Rl E K I R s H locs k → lv_has ls y.2.2.1 (L.map (ny_lv E)) →
    (∀ v K' I' R' H' locs' pc' ls', Ret v K' I' R' → ny_Rl E K' I' R' s H' locs' mc → ny_rt y pc' v → W p l e Rm s m args below meth c H' locs' mc ms Q (F0 m pc' ls' (v.toList.map (ny_v E)))) →
    W p l e Rm s m args below meth c H locs k n Q (F0 m pc ls (S.map (ny_v E)))
section NYG
variable {d mc ms : Nat} {y : ny_M} {pc : Nat} {L : ny_Lc} {S : List Value} {K : ny_K} {I : ny_I} {R : ny_R} {k n : Nat} {Ret : ny_Q}
theorem ny_G_eq {S2 : List Value} {L2 : ny_Lc} {I2 : ny_I} (h : ny_G d mc ms y pc L2 S2 K I2 R k n Ret) (e1 : L = L2) (e2 : S = S2) (e3 : I = I2) : ny_G d mc ms y pc L S K I R k n Ret := by
  subst e1; subst e2; subst e3; exact h
/-- fewer locals known -/
theorem ny_G_sub {L2 : ny_Lc} (h : ny_G d mc ms y pc L2 S K I R k n Ret) (hs : ∀ q ∈ L2, q ∈ L) : ny_G d mc ms y pc L S K I R k n Ret := by
  intro p l e Rm s m args below meth c H locs ls Q E C hk hn hR hl hq
  refine h p l e Rm s m args below meth c H locs ls Q E C hk hn hR ⟨hl.1, hl.2.1, fun q hm => ?_⟩ hq
  obtain ⟨q0, h0, rfl⟩ := List.mem_map.mp hm
  exact hl.2.2 _ (List.mem_map.mpr ⟨q0, hs q0 h0, rfl⟩)
theorem ny_G_run {own : Nat} (hy : ny_chk own y = true) : ∀ (qs : List ny_Op) (pc : Nat) (L : ny_Lc) (S : List Value) (I : ny_I), (∀ q ∈ qs, q ∈ y.2.2.2.2.2) →
    ny_run K R qs pc L S I (fun pc' L' S' I' => ny_G d mc ms y pc' L' S' K I' R k n Ret) → ny_G d mc ms y pc L S K I R k n Ret := by
  intro qs
  induction qs with
  | nil => intro pc L S I _ h; exact h
  | cons q qs ih =>
    intro pc L S I hin h
    rw [ny_run] at h
    split at h
    next => exact h.elim
    next hb =>
      have hpc : q.1 = pc := Nat.eq_of_beq_eq_true hb
      split at h
      next => exact h.elim
      next L' S' I' hst =>
        have hG := ih _ _ _ _ (fun q' hq' => hin q' (List.mem_cons_of_mem _ hq')) h
        intro p l e Rm s m args below meth c H locs ls Q E C hk hn hR hl hq
        rw [← hpc] at hG ⊢
        exact ny_stp_ok hy C (hin q List.mem_cons_self) hst (fun b hb => by cases hb) hk hn hR hl (fun H' locs' ls' hR' hl' => hG p l e Rm s m args below meth c H' locs' ls' Q E C hk hn hR' hl' hq)
      next g L' S' I' hst =>
        have hG := ih _ _ _ _ (fun q' hq' => hin q' (List.mem_cons_of_mem _ hq')) h.2
        intro p l e Rm s m args below meth c H locs ls Q E C hk hn hR hl hq
        rw [← hpc] at hG ⊢
        exact ny_stp_ok hy C (hin q List.mem_cons_self) hst (fun b hb => by cases hb; exact h.1) hk hn hR hl (fun H' locs' ls' hR' hl' => hG p l e Rm s m args below meth c H' locs' ls' Q E C hk hn hR' hl' hq)
/-- a stretch of n instructions from the i-th on -/
theorem ny_blk {own : Nat} (hy : ny_chk own y = true) (i j : Nat) (h : ny_run K R ((y.2.2.2.2.2.drop i).take j) pc L S I (fun pc' L' S' I' => ny_G d mc ms y pc' L' S' K I' R k n Ret)) : ny_G d mc ms y pc L S K I R k n Ret :=
  ny_G_run hy _ pc L S I (fun _ hq => List.mem_of_mem_drop (List.mem_of_mem_take hq)) h
/-- the i-th instruction, decoded -/
theorem ny_dec {own : Nat} (hy : ny_chk own y = true) {i : Nat} {q : ny_Op} (h : y.2.2.2.2.2[i]? = some q) : decode y.2.1 q.1 = .ok (q.2.2.1, q.2.1) := by
  unfold ny_chk at hy
  simp only [Bool.and_eq_true, decide_eq_true_eq] at hy
  have h2 := List.all_eq_true.mp hy.2 q (List.mem_of_getElem? h)
  simp only [Bool.and_eq_true, decide_eq_true_eq] at h2
  exact h2.1
end NYG
