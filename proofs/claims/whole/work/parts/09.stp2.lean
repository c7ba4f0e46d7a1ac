theorem ny_catsum (E : ny_E) (t : List Value) : (((t.map (ny_v E)).map fun v => v.category)).sum ≤ 2 * t.length := by
  induction t with
  | nil => exact Nat.le_refl _
  | cons v t ih =>
    rw [List.map_cons, List.map_cons, List.sum_cons, List.length_cons]
    have h : (ny_v E v).category ≤ 2 := by rcases lv_cat (ny_v E v) with h | h <;> omega
    omega
theorem ny_cb_of {K : ny_K} {s d : Nat} {sp dp n : Int32} (h : ny_cb K s d sp dp n = true) : 5 ≤ s ∧ 5 ≤ d ∧ s ≠ d ∧ K[s]? = some (1, ny_ln K s) ∧ K[d]? = some (1, ny_ln K d) ∧
    ¬ sp < 0 ∧ ¬ dp < 0 ∧ ¬ n < 0 ∧ sp.toNatClampNeg + n.toNatClampNeg ≤ ny_ln K s ∧ dp.toNatClampNeg + n.toNatClampNeg ≤ ny_ln K d := by
  simp only [ny_cb, Bool.and_eq_true, Bool.not_eq_true', decide_eq_true_eq, decide_eq_false_iff_not] at h
  obtain ⟨⟨⟨⟨⟨⟨⟨⟨⟨h1, h2⟩, h3⟩, h4⟩, h5⟩, h6⟩, h7⟩, h8⟩, h9⟩, h10⟩ := h
  have key : ∀ o : Nat, (K.getD o (0, 0)).1 = 1 → K[o]? = some (1, ny_ln K o) := by
    intro o ho
    unfold ny_ln
    rw [List.getD_eq_getElem?_getD] at ho ⊢
    cases hk : K[o]? with
    | none => rw [hk] at ho; cases ho
    | some q => rw [hk] at ho; obtain ⟨a, b⟩ := q; cases ho; rfl
  exact ⟨h1, h2, h3, key s h4, key d h5, h6, h7, h8, h9, h10⟩
theorem ny_cpo (I : ny_I) (d s sp dp n : Nat) : ny_cp I d s sp dp n d = va_cpy (I s) (I d) sp dp n := if_pos rfl
theorem ny_cpn (I : ny_I) (d s sp dp n : Nat) : ∀ c, c ≠ d → ny_cp I d s sp dp n c = I c := fun _ h => if_neg h
section NYB
variable {p : Program} {l : Launch} {e : Env} {Rm : Room} {s : State} {m : MethodId} {args : Array Value} {below : List Frame} {meth : Method} {c : Code} {H : Heap} {locs : List Loc} {ls : Array Slot} {Q : State → Prop} {E : ny_E} {d mc ms k n : Nat} {K : ny_K} {R : ny_R} {I : ny_I} {y : ny_M}
theorem ny_w_inv {index a pc : Nat} {S' S : List Value} {L L' : ny_Lc} {I' : ny_I} {g : Option Bool} (C : ny_C E p s m args meth c y Rm d mc ms) (hR : ny_Rl E K I R s H locs k) (hls : ls.size = y.2.2.1) (hkm : k ≤ mc) (hnm : n ≤ ms)
    (hok : (match a with
      | 0 => true
      | 1 => ny_mem (.methodLink y.1.cls index Lib.Math.max.name)
      | 2 => ny_mem (.methodLink y.1.cls index Lib.Math.min.name)
      | 3 => ny_mem (.methodLink y.1.cls index Lib.Math.abs.name)
      | 4 => ny_mem (.methodLink y.1.cls index arraycopyName)
      | _ => false) = true)
    (hd : decode y.2.1 pc = .ok (.invokestatic index, 3)) (h : ny_inv L S I K a = some (g, L', S', I')) (hg : ∀ b, g = some b → b = true)
    (kk : ∀ H' locs', L' = L → ny_Rl E K I' R s H' locs' k → W p l e Rm s m args below meth c H' locs' k n Q (F0 m (pc + 3) ls (S'.map (ny_v E)))) : W p l e Rm s m args below meth c H locs k n Q (F0 m pc ls (S.map (ny_v E))) := by
  obtain ⟨hx, hb, hr, hml, hown, hts, hlk, hin, hf1, hf2, hc, hs, ⟨hK, hN⟩, hX, hsz⟩ := C
  unfold ny_inv at h
  split at h
  · split at h
    next yv xv t =>
      split at h
      next hb8 =>
        have hb8 : t.length ≤ 8 := Nat.le_of_ble_eq_true hb8
        have hcs := ny_catsum E t
        injection h with h
        injection h with h1 h
        injection h with h2 h
        injection h with h3 h4
        subst h2; subst h3; subst h4
        refine va_mmax hx hb (by rw [hml, hls]) hown (hts _ (ny_mem_tb hok)) (hts _ (ny_mem_tb (by decide +kernel))) (hts _ (ny_mem_tb (by decide +kernel))) (hts _ (ny_mem_tb (by decide +kernel))) (by omega) (by omega) (by omega) (by omega) hd (kk _ _ rfl hR)
      next => cases h
    next => cases h
  · split at h
    next yv xv t =>
      split at h
      next hb8 =>
        have hb8 : t.length ≤ 8 := Nat.le_of_ble_eq_true hb8
        have hcs := ny_catsum E t
        injection h with h
        injection h with h1 h
        injection h with h2 h
        injection h with h3 h4
        subst h2; subst h3; subst h4
        refine va_mmin hx hb (by rw [hml, hls]) hown (hts _ (ny_mem_tb hok)) (hts _ (ny_mem_tb (by decide +kernel))) (hts _ (ny_mem_tb (by decide +kernel))) (hts _ (ny_mem_tb (by decide +kernel))) (by omega) (by omega) (by omega) (by omega) hd (kk _ _ rfl hR)
      next => cases h
    next => cases h
  · split at h
    next xv t =>
      split at h
      next hb8 =>
        have hb8 : t.length ≤ 8 := Nat.le_of_ble_eq_true hb8
        have hcs := ny_catsum E t
        injection h with h
        injection h with h1 h
        injection h with h2 h
        injection h with h3 h4
        subst h2; subst h3; subst h4
        refine va_mabs hx hb (by rw [hml, hls]) hown (hts _ (ny_mem_tb hok)) (hts _ (ny_mem_tb (by decide +kernel))) (hts _ (ny_mem_tb (by decide +kernel))) (hts _ (ny_mem_tb (by decide +kernel))) (by omega) (by omega) (by omega) (by omega) hd (kk _ _ rfl hR)
      next => cases h
    next => cases h
  · split at h
    next nv dp dd sp ss t =>
      split at h
      next hb8 =>
        have hb8 : t.length ≤ 8 := Nat.le_of_ble_eq_true hb8
        have hcs := ny_catsum E t
        injection h with h
        injection h with h1 h
        injection h with h2 h
        injection h with h3 h4
        obtain ⟨g1, g2, g3, g4, g5, g6, g7, g8, g9, g10⟩ := ny_cb_of (hg _ h1.symm)
        subst h2; subst h3; subst h4
        obtain ⟨hP, hS, hz⟩ := id hR
        have w1 := ny_ws_get E I R g1 g4
        have w2 := ny_ws_get E I R g2 g5
        rw [List.map_cons, List.map_cons, List.map_cons, List.map_cons, List.map_cons, ny_ref g1, ny_ref g2]
        refine va_copyi (ty := .int) hx hb (by rw [hml, hls]) hown (hts _ (ny_mem_tb hok)) (hts _ (ny_mem_tb (by decide +kernel))) (hts _ (ny_mem_tb (by decide +kernel))) (hts _ (ny_mem_tb (by decide +kernel))) hK hP.2.2.2.2 (ny_ws_D E K I R) hS (ss - 5) (dd - 5) 0 0 w1 w2 (ny_tys0 E) (ny_tys0 E) rfl g6 g7 g8 g9 g10 (fun _ _ => rfl) (by omega) ?_ hd (fun H1 locs1 hP1 hD1 hS1 => ?_)
        · have e : nativeFrameWords "java/lang/System" "arraycopy" 5 = 7 := by decide +kernel
          rw [e]
          omega
        · refine kk H1 locs1 rfl (ny_put hR g2 g5 (ny_cpn I dd ss _ _ _) ?_ hP1 hS1)
          rw [ny_cpo]
          rfl
      next => cases h
    next => cases h
  · cases h
end NYB
