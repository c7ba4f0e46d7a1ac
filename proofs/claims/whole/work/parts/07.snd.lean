/-! one instruction of the memory's is one of the machine's -/
theorem ny_in_of {j : Int32} {n : Nat} (h : ny_in j n = true) : vp_in j n := by
  simp only [ny_in, Bool.and_eq_true, Bool.not_eq_true', decide_eq_false_iff_not, decide_eq_true_eq] at h
  rintro (q | q)
  · exact h.1 q
  · omega
theorem ny_ar_of {K : ny_K} {t o : Nat} {j : Int32} (h : ny_ar K t o j = true) : ∃ n, K[o]? = some (t, n) ∧ vp_in j n := by
  unfold ny_ar at h
  split at h
  next q hq =>
    simp only [Bool.and_eq_true, decide_eq_true_eq] at h
    exact ⟨q.2, by rw [hq, ← h.1], ny_in_of h.2⟩
  next => cases h
theorem ny_rs_of {r : Option Nat} (h : ny_rs r = true) : ∃ z, r = some z ∧ z ≠ 4 := by
  unfold ny_rs at h
  split at h
  next z => exact ⟨z, rfl, fun e => by subst e; cases h⟩
  next => cases h
theorem ny_fl_of {own : Nat} (ho : own < 18) {i a b : Nat} (h : (ny_FL.getD own []).contains (i, a, b) = true) :
    ny_fl own (i, a, b) ∈ ny_tb ∧ a < 11 ∧ b / 3 < (ny_Ks.getD a []).length ∧ (ny_Ks.getD a []).getD (b / 3) 9 = b % 3 := by
  have h1 := List.all_eq_true.mp ny_fl_ok own (List.mem_range.mpr ho)
  have h2 := List.all_eq_true.mp h1 (i, a, b) (List.contains_iff_mem.mp h)
  simp only [Bool.and_eq_true, decide_eq_true_eq] at h2
  exact ⟨ny_mem_tb h2.1.1.1, h2.1.1.2, h2.1.2, h2.2⟩
theorem ny_cls_at : ∀ a, a < 11 → ny_cls[a]? = some (ny_cn.getD a "", ny_T a, (ny_Ks.getD a []).length) := by
  intro a ha
  match a, ha with
  | 0, _ => rfl
  | 1, _ => rfl
  | 2, _ => rfl
  | 3, _ => rfl
  | 4, _ => rfl
  | 5, _ => rfl
  | 6, _ => rfl
  | 7, _ => rfl
  | 8, _ => rfl
  | 9, _ => rfl
  | 10, _ => rfl
theorem ny_lay {a : Nat} {q : vw_C} (h : ny_cls[a]? = some q) : ∀ w ∈ u_ws q.1 q.2.1 q.2.2, w ∈ ny_tb := by
  intro w hw
  exact ny_mem_tb (List.all_eq_true.mp (List.all_eq_true.mp ny_lay_ok q (List.mem_of_getElem? h)) w hw)
/-- facts of fields that a program decides: types by their letters, names apart, whole numbers aren't final, the declaring class -/
def ny_ty (a : Nat) : Nat → FieldType := fun k => (parseFieldDescriptor (ny_T a k).2.2.1).getD .int
theorem ny_ty_ok : ∀ a, a < 11 → ∀ k, k < (ny_Ks.getD a []).length → parseFieldDescriptor (ny_T a k).2.2.1 = some (ny_ty a k) := by decide +kernel
theorem ny_nm_ok : ∀ a, a < 11 → ∀ i, i < (ny_Ks.getD a []).length → ∀ j, j < (ny_Ks.getD a []).length → i ≠ j → (ny_T a i).2.1 ≠ (ny_T a j).2.1 := by decide +kernel
theorem ny_fd_ok : ∀ a, a < 11 → ∀ k, k < (ny_Ks.getD a []).length → (ny_T a k).1 = ny_cn.getD a "" ∧ ((ny_Ks.getD a []).getD k 9 = 0 → ny_ty a k = .int ∧ (ny_T a k).2.2.2 = false) ∧ ((ny_Ks.getD a []).getD k 9 = 2 → ny_ty a k = .boolean ∧ (ny_T a k).2.2.2 = false) := by decide +kernel
theorem ny_fs_at (E : ny_E) (ci : Nat) (i : Nat → Int32) (r : Nat → Option Nat) {k : Nat} (hk : k < (ny_Ks.getD ci []).length) :
    (ny_fs E ci i r)[k]? = some (if (ny_Ks.getD ci []).getD k 9 = 1 then va_rf ((r k).map (ny_ph E)) else .int (i k)) := by
  unfold ny_fs
  rw [List.getElem?_map, List.getElem?_range hk]
  rfl
theorem ny_fs_len (E : ny_E) (ci : Nat) (i : Nat → Int32) (r : Nat → Option Nat) : (ny_fs E ci i r).length = (ny_Ks.getD ci []).length := by
  unfold ny_fs
  rw [List.length_map, List.length_range]
theorem ny_fs_set (E : ny_E) (ci : Nat) (i : Nat → Int32) (r : Nat → Option Nat) {k : Nat} (hk : k < (ny_Ks.getD ci []).length) (x : Int32) (h1 : (ny_Ks.getD ci []).getD k 9 ≠ 1) :
    (ny_fs E ci i r).set k (.int x) = ny_fs E ci (upd i k x) r := by
  apply List.ext_getElem?
  intro j
  by_cases hj : j = k
  · subst hj
    rw [List.getElem?_set_self (by rw [ny_fs_len]; exact hk), ny_fs_at E ci _ r hk, if_neg h1]
    simp [upd]
  · rw [List.getElem?_set_ne (Ne.symm hj)]
    by_cases hl : j < (ny_Ks.getD ci []).length
    · rw [ny_fs_at E ci _ r hl, ny_fs_at E ci _ r hl]
      simp [upd, hj]
    · rw [List.getElem?_eq_none (by rw [ny_fs_len]; omega), List.getElem?_eq_none (by rw [ny_fs_len]; omega)]
section NYW
variable {p : Program} {l : Launch} {e : Env} {Rm : Room} {s : State} {m : MethodId} {args : Array Value} {below : List Frame} {meth : Method} {c : Code} {H : Heap} {locs : List Loc} {ls : Array Slot} {Q : State → Prop} {E : ny_E} {d mc ms k n : Nat} {K : ny_K} {R : ny_R} {I : ny_I} {y : ny_M}
/-- of an object with fields: where it lies -/
theorem ny_obj {o a : Nat} (hP : ny_P E K I R H) (ha : a < 11) (hk : ny_kd K o (0, a) = true) : 5 ≤ o ∧ (ny_ws E K I R)[o - 5]? = some (ny_ph E o, .inr (a, ny_fs E a (I o) (R o))) := by
  have hk : K[o]? = some (0, a) := of_decide_eq_true hk
  have h5 : 5 ≤ o := by
    rcases Nat.lt_or_ge o 5 with h | h
    · exfalso
      rw [ny_low hP h] at hk
      rcases (show o = 0 ∨ o = 1 ∨ o = 2 ∨ o = 3 ∨ o = 4 by omega) with rfl | rfl | rfl | rfl | rfl <;> simp [ny_k5] at hk
      omega
    · exact h
  exact ⟨h5, ny_ws_get E I R h5 hk⟩
theorem ny_str {o : Nat} (hP : ny_P E K I R H) (hk : ny_kd K o (0, 11) = true) : o = 2 := by
  have hk : K[o]? = some (0, 11) := of_decide_eq_true hk
  rcases Nat.lt_or_ge o 5 with h | h
  · rw [ny_low hP h] at hk
    rcases (show o = 0 ∨ o = 1 ∨ o = 2 ∨ o = 3 ∨ o = 4 by omega) with rfl | rfl | rfl | rfl | rfl <;> simp [ny_k5] at hk ⊢
  · exfalso
    obtain ⟨r, h1, -⟩ := hP.2.2.2.2 _ _ (ny_ws_get E I R h hk)
    cases h1
theorem ny_ref {o : Nat} (h : 5 ≤ o) : ny_v E (.ref o) = .ref (ny_ph E o) := by
  show (if o = 4 then va_rf (ny_fm E) else .ref (ny_ph E o)) = _
  rw [if_neg (by omega)]
theorem ny_refs {o : Nat} (h : o ≠ 4) : ny_v E (.ref o) = .ref (ny_ph E o) := if_neg h
/-- a write to one cell -/
theorem ny_put {o : Nat} {kd : Nat × Nat} {H1 : Heap} {locs1 : List Loc} {I' : ny_I} {ent : va_E} (hR : ny_Rl E K I R s H locs k) (h5 : 5 ≤ o) (hk : K[o]? = some kd) (hI : ∀ c, c ≠ o → I' c = I c)
    (he : ent = ny_cell E kd (I' o) (R o)) (hP1 : va_P E.1 ny_cls ((ny_ws E K I R).set (o - 5) (ny_ph E o, ent)) H1) (hS1 : va_S (ny_A E) s.heap H1 locs1) : ny_Rl E K I' R s H1 locs1 k := by
  obtain ⟨⟨a1, a2, a3, ⟨a4, a5, a6⟩, a7⟩, -, a9⟩ := hR
  refine ⟨⟨a1, by rw [hI 0 (by omega)]; exact a2, by rw [hI 1 (by omega)]; exact a3, ⟨by rw [hI 2 (by omega)]; exact a4, by rw [hI 3 (by omega)]; exact a5, a6⟩, ?_⟩, hS1, a9⟩
  rw [he, ny_ws_set E (R' := R) h5 hk hI (fun _ _ => rfl)] at hP1
  exact hP1
theorem ny_upo (I : ny_I) (o j : Nat) (x : Int32) : ny_up I o j x o = upd (I o) j x := if_pos rfl
theorem ny_upn (I : ny_I) (o j : Nat) (x : Int32) : ∀ c, c ≠ o → ny_up I o j x c = I c := fun _ h => if_neg h
theorem ny_w_gf {cc : ByteArray} {own : Nat} {index a b pc : Nat} {S' S : List Value} {L L' : ny_Lc} {I' : ny_I} {g : Option Bool} (C : ny_C E p s m args meth c y Rm d mc ms) (ho : own < 18) (hcn : ny_cn.getD own "" = y.1.cls) (hR : ny_Rl E K I R s H locs k)
    (hok : (if a = 11 then decide (own = 11) && (decide (index = 9 ∧ b = 4) || decide (index = 15 ∧ b = 0)) else (ny_FL.getD own []).contains (index, a, b)) = true)
    (hd : decode y.2.1 pc = .ok (.getfield index, 3)) (h : ny_gf L S I K R a b = some (g, L', S', I')) (hg : ∀ b, g = some b → b = true)
    (kk : L' = L → I' = I → W p l e Rm s m args below meth c H locs k n Q (F0 m (pc + 3) ls (S'.map (ny_v E)))) : W p l e Rm s m args below meth c H locs k n Q (F0 m pc ls (S.map (ny_v E))) := by
  obtain ⟨hx, hb, hr, hml, hown, hts, hlk, hin, hf1, hf2, hc, hs, ⟨hK, hN⟩, hX, hsz⟩ := C
  obtain ⟨hP, hS, hz⟩ := hR
  unfold ny_gf at h
  split at h
  next o t =>
    split at hok
    next h11 =>
      subst h11
      simp only [Bool.and_eq_true, Bool.or_eq_true, decide_eq_true_eq] at hok
      obtain ⟨rfl, hok⟩ := hok
      have hcl : y.1.cls = "java/lang/String" := hcn.symm
      rw [hcl] at hown
      have hsv := (hX.2.2.2.2.2.2.2).1 0 (by decide)
      rcases hok with ⟨rfl, rfl⟩ | ⟨rfl, rfl⟩
      · injection h with h
        injection h with h1 h
        injection h with h2 h
        injection h with h3 h4
        have hk := hg _ h1.symm
        rw [Bool.and_eq_true] at hk
        have e := ny_str hP hk.1
        subst e
        subst h2; subst h4; subst h3
        refine vk_getf (o := "java/lang/String") (ref := "java/lang/String") (n := "value") (d := "[B") hx hb hsv.2.2.1 hS hown (hts _ (by exact ny_mem_tb (w := .fieldLink "java/lang/String" 9 "java/lang/String" "value" "[B") (by decide +kernel))) (fun _ h => h) hd ?_
        have e3 : R 2 (4 / 3) = some 3 := hP.2.2.2.1.2.2
        have kk := kk rfl rfl
        rw [List.map_cons, e3] at kk
        exact kk
      · injection h with h
        injection h with h1 h
        injection h with h2 h
        injection h with h3 h4
        have hk := hg _ h1.symm
        have e := ny_str hP hk
        subst e
        subst h2; subst h4; subst h3
        refine vk_getf (o := "java/lang/String") (ref := "java/lang/String") (n := "coder") (d := "B") hx hb hsv.2.1 hS hown (hts _ (by exact ny_mem_tb (w := .fieldLink "java/lang/String" 15 "java/lang/String" "coder" "B") (by decide +kernel))) (fun _ h => h) hd ?_
        have e3 : I 2 (0 / 3) = 0 := hP.2.2.2.1.1
        have kk := kk rfl rfl
        rw [List.map_cons, e3] at kk
        exact kk
    next h11 =>
      obtain ⟨hfl, ha, hbk, hkind⟩ := ny_fl_of ho hok
      have hlink := hts _ hfl
      unfold ny_fl at hlink
      rw [hcn] at hlink
      split at h
      next hb3 =>
        injection h with h
        injection h with h1 h
        injection h with h2 h
        injection h with h3 h4
        have hk := hg _ h1.symm
        rw [Bool.and_eq_true] at hk
        obtain ⟨h5, hws⟩ := ny_obj hP ha hk.1
        subst h2; subst h4; subst h3
        rw [List.map_cons, ny_ref h5]
        have hv := ny_fs_at E a (I o) (R o) hbk
        rw [hkind, hb3, if_pos rfl] at hv
        obtain ⟨z, hz2, hz4⟩ := ny_rs_of hk.2
        have kk := kk rfl rfl
        rw [List.map_cons, hz2] at kk
        rw [hz2] at hv
        have hc := ny_cls_at a ha
        refine va_get (ref := (ny_T a (b / 3)).1) hx hb hts (ny_lay hc) hown hK hP.2.2.2.2 (o - 5) hws hc (b / 3) hbk hlink (fun _ h9 => h9) hv hd ?_
        rw [show ny_v E (.ref ((some z).getD 0)) = .ref (ny_ph E z) from ny_refs hz4] at kk
        exact kk
      next hb3 =>
        injection h with h
        injection h with h1 h
        injection h with h2 h
        injection h with h3 h4
        have hk := hg _ h1.symm
        obtain ⟨h5, hws⟩ := ny_obj hP ha hk
        subst h2; subst h4; subst h3
        rw [List.map_cons, ny_ref h5]
        have hv := ny_fs_at E a (I o) (R o) hbk
        rw [hkind, if_neg hb3] at hv
        have hc := ny_cls_at a ha
        exact va_get (ref := (ny_T a (b / 3)).1) hx hb hts (ny_lay hc) hown hK hP.2.2.2.2 (o - 5) hws hc (b / 3) hbk hlink (fun _ h9 => h9) hv hd (kk rfl rfl)
  next => cases h
end NYW
