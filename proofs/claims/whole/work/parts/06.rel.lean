/-! the machine's heap as cells and places -/
/-- classes' numbers, fields' places; array classes; addresses of the script, the static row, the text, its bytes, the formatter; the script; where what is made begins -/
abbrev ny_E : Type := ((Nat → ClassId) × (Nat → Nat → Nat)) × (Nat → ClassId) × (Nat × Nat × Nat × Nat × Option Nat) × (Nat × (Nat → Int32)) × Nat
section NYE
variable (E : ny_E)
def ny_sz : Nat := E.2.2.2.2
def ny_xb : Nat := E.2.2.1.1
def ny_t0 : Nat := E.2.2.1.2.1
def ny_w0 : Nat := E.2.2.1.2.2.1
def ny_v0 : Nat := E.2.2.1.2.2.2.1
def ny_fm : Option Nat := E.2.2.1.2.2.2.2
def ny_Ln : Nat := E.2.2.2.1.1
def ny_xs : Nat → Int32 := E.2.2.2.1.2
def ny_ph (i : Nat) : Nat := if i = 0 then ny_xb E else if i = 1 then ny_t0 E else if i = 2 then ny_w0 E else if i = 3 then ny_v0 E else ny_sz E + (i - 5)
def ny_v : Value → Value
  | .ref i => if i = 4 then va_rf (ny_fm E) else .ref (ny_ph E i)
  | v => v
def ny_lv (q : Nat × Value) : Nat × Value := (q.1, ny_v E q.2)
def ny_A : Nat → Prop := fun q => ny_sz E ≤ q
def ny_ab : Nat → Int32 := fun j => ([-1, 0, 0, 2, 0, 4] : List Int32).getD j 0
def ny_txt : String := "figure marble girl matron novice dreamer relieve keep smoke bell tired grace guests number if and or not "
def ny_bl : List Int32 := [102, 105, 103, 117, 114, 101, 32, 109, 97, 114, 98, 108, 101, 32, 103, 105, 114, 108, 32, 109, 97, 116, 114, 111, 110, 32, 110, 111, 118, 105, 99, 101, 32, 100, 114, 101, 97, 109, 101, 114, 32, 114, 101, 108, 105, 101, 118, 101, 32, 107, 101, 101, 112, 32, 115, 109, 111, 107, 101, 32, 98, 101, 108, 108, 32, 116, 105, 114, 101, 100, 32, 103, 114, 97, 99, 101, 32, 103, 117, 101, 115, 116, 115, 32, 110, 117, 109, 98, 101, 114, 32, 105, 102, 32, 97, 110, 100, 32, 111, 114, 32, 110, 111, 116, 32]
def ny_by : Nat → Int32 := fun j => ny_bl.getD j 0
def ny_fs (ci : Nat) (i : Nat → Int32) (r : Nat → Option Nat) : List Value := (List.range ((ny_Ks.getD ci []).length)).map fun k => if (ny_Ks.getD ci []).getD k 9 = 1 then va_rf ((r k).map (ny_ph E)) else .int (i k)
def ny_cell (kd : Nat × Nat) (i : Nat → Int32) (r : Nat → Option Nat) : va_E := match kd.1 with
  | 0 => .inr (kd.2, ny_fs E kd.2 i r)
  | 1 => .inl (E.2.1 0, kd.2, .inl i)
  | 2 => .inl (E.2.1 1, kd.2, .inl i)
  | t + 3 => .inl (E.2.1 (t + 2), kd.2, .inr (.inr (.inr (.inr fun j => (r j).map (ny_ph E)))))
def ny_ws (K : ny_K) (I : ny_I) (R : ny_R) : va_W := (List.range (K.length - 5)).map fun j => (ny_sz E + j, ny_cell E (K.getD (j + 5) (0, 0)) (I (j + 5)) (R (j + 5)))
def ny_tys : List (ClassId × FieldType) := [(E.2.1 0, .int), (E.2.1 1, .byte), (E.2.1 2, .object "NymphRota$Moment"), (E.2.1 3, .object "NymphRota$Sheet"), (E.2.1 4, .object "NymphRota$Shelf"), (E.2.1 5, .array .int)]
def ny_k5 : ny_K := [(1, ny_Ln E), (1, 6), (0, 11), (2, 105), (9, 0)]
def ny_P (K : ny_K) (I : ny_I) (R : ny_R) (H : Heap) : Prop := K.take 5 = ny_k5 E ∧ I 0 = ny_xs E ∧ I 1 = ny_ab ∧ (I 2 0 = 0 ∧ I 3 = ny_by ∧ R 2 1 = some 3) ∧ va_P E.1 ny_cls (ny_ws E K I R) H
/-- what stands from the start on, and nobody writes -/
def ny_X (s : State) (H : Heap) : Prop := va_X (ny_xb E) (ny_Ln E) (ny_xs E) s H ∧ ny_xb E < ny_sz E ∧ va_T .int (ny_t0 E) 6 (fun j => .int (ny_ab j)) (ny_A E) s H ∧
  va_Z "NymphRota$Kinds" "ABOVE" "[I" (.ref (ny_t0 E)) (ny_A E) s H ∧ va_Z "java/lang/String" "COMPACT_STRINGS" "Z" (.int 1) (ny_A E) s H ∧
  va_Z "jdk/internal/util/Preconditions" "SIOOBE_FORMATTER" "Ljava/util/function/BiFunction;" (va_rf (ny_fm E)) (ny_A E) s H ∧
  vk_R "NymphRota$Tape" 94 ny_txt (ny_w0 E) s ∧ vk_S 1 [105] [ny_bl] (fun _ => ny_w0 E) (fun _ => ny_v0 E) (ny_A E) s H
def ny_nest : List (String × Nat × MethodName × String) := [("NymphRota$Basin", 11, ⟨"NymphRota$Moment", "<init>", "()V"⟩, "NymphRota"), ("NymphRota$Basin", 52, ⟨"NymphRota$Rules", "<init>", "()V"⟩, "NymphRota"), ("NymphRota$Basin", 59, ⟨"NymphRota$Reports", "<init>", "()V"⟩, "NymphRota"), ("NymphRota", 25, ⟨"NymphRota$Tape", "<init>", "()V"⟩, "NymphRota"), ("NymphRota$Tape", 40, ⟨"NymphRota$Rules", "<init>", "()V"⟩, "NymphRota"), ("NymphRota$Plans", 46, ⟨"NymphRota$Moment", "<init>", "()V"⟩, "NymphRota"), ("NymphRota", 60, ⟨"NymphRota$Acting", "<init>", "()V"⟩, "NymphRota"), ("NymphRota", 65, ⟨"NymphRota$Sheet", "<init>", "()V"⟩, "NymphRota"), ("NymphRota", 66, ⟨"NymphRota$Shelf", "<init>", "()V"⟩, "NymphRota")]
def ny_S (s : State) : Prop := va_K E.1 ny_cls (ny_tys E) s ∧ ∀ q ∈ ny_nest, va_Nw (.methodLinkNest q.1 q.2.1 q.2.2.1 q.2.2.2) s
def ny_C (p : Program) (s : State) (m : MethodId) (args : Array Value) (meth : Method) (c : Code) (y : ny_M) (Rm : Room) (d mc ms : Nat) : Prop :=
  p.tables.exec = Jvm.exec ∧ c.code = y.2.1 ∧ meth.sig.returnType = y.2.2.2.1 ∧ c.maxLocals = y.2.2.1 ∧ s.vm.findClass y.1.cls = some m.cls ∧ (∀ w ∈ ny_tb, w.before args s = true) ∧ meth.locks = false ∧
  (y.2.2.2.2.1 = true → meth.name = "<init>") ∧ d + 1 ≤ Rm.frames ∧ 64 * (d + 1) ≤ Rm.locals ∧ Rm.cells = mc ∧ Rm.slots = ms ∧ ny_S E s ∧ ny_X E s s.heap ∧ ny_sz E ≤ s.heap.size
def ny_Rl (K : ny_K) (I : ny_I) (R : ny_R) (s : State) (H : Heap) (locs : List Loc) (k : Nat) : Prop := ny_P E K I R H ∧ va_S (ny_A E) s.heap H locs ∧ s.heap.size + k + 5 = ny_sz E + K.length
end NYE
theorem ny_v_cat (E : ny_E) (v : Value) : (ny_v E v).category = v.category := by
  cases v <;> try rfl
  rename_i i
  show (if i = 4 then va_rf (ny_fm E) else .ref (ny_ph E i)).category = 1
  split
  · cases ny_fm E <;> rfl
  · rfl
theorem ny_lk_mem {L : ny_Lc} {i : Nat} {v : Value} (h : ny_lk L i = some v) : (i, v) ∈ L := by
  induction L with
  | nil => cases h
  | cons q t ih =>
    rw [ny_lk] at h
    split at h
    next hb =>
      cases h
      rw [← Nat.eq_of_beq_eq_true hb]
      exact List.mem_cons_self
    next => exact List.mem_cons_of_mem _ (ih h)
theorem ny_lk_has {E : ny_E} {ls : Array Slot} {n : Nat} {L : ny_Lc} {i : Nat} {v : Value} (hl : lv_has ls n (L.map (ny_lv E))) (h : ny_lk L i = some v) : ls[i]? = some (.val (ny_v E v)) :=
  hl.2.2 (i, ny_v E v) (List.mem_map.mpr ⟨(i, v), ny_lk_mem h, rfl⟩)
theorem ny_ins_mem {i : Nat} {v : Value} {L : ny_Lc} {q : Nat × Value} (h : q ∈ ny_ins i v L) : q = (i, v) ∨ q ∈ L := by
  induction L with
  | nil => exact Or.inl (List.mem_singleton.mp h)
  | cons a t ih =>
    rw [ny_ins] at h
    split at h
    · rcases List.mem_cons.mp h with rfl | h
      · exact Or.inr List.mem_cons_self
      · exact (ih h).imp id (List.mem_cons_of_mem _)
    · exact (List.mem_cons.mp h)
theorem ny_st_has {E : ny_E} {ls : Array Slot} {n : Nat} {L : ny_Lc} {i : Nat} {v : Value} (h : lv_has ls n ((i, ny_v E v) :: (L.map (ny_lv E)).filter (fun q => !(q.1 == i) && !(q.1 + 1 == i && q.2.category == 2)))) : lv_has ls n ((ny_st L i v).map (ny_lv E)) := by
  refine ⟨h.1, h.2.1, fun q hq => h.2.2 q ?_⟩
  obtain ⟨q0, h0, rfl⟩ := List.mem_map.mp hq
  rcases ny_ins_mem h0 with rfl | h0
  · exact List.mem_cons_self
  · obtain ⟨h1, h2⟩ := List.mem_filter.mp h0
    refine List.mem_cons_of_mem _ (List.mem_filter.mpr ⟨List.mem_map.mpr ⟨q0, h1, rfl⟩, ?_⟩)
    show (!(q0.1 == i) && !(q0.1 + 1 == i && (ny_v E q0.2).category == 2)) = true
    rw [ny_v_cat]
    exact h2
theorem ny_st2_has {E : ny_E} {ls : Array Slot} {n : Nat} {L : ny_Lc} {i : Nat} {v : Value} (h : lv_has ls n ((i, ny_v E v) :: (L.map (ny_lv E)).filter (fun q => !(q.1 == i) && (!(q.1 == i + 1) && !(q.1 + 1 == i && q.2.category == 2))))) : lv_has ls n ((ny_st2 L i v).map (ny_lv E)) := by
  refine ⟨h.1, h.2.1, fun q hq => h.2.2 q ?_⟩
  obtain ⟨q0, h0, rfl⟩ := List.mem_map.mp hq
  rcases ny_ins_mem h0 with rfl | h0
  · exact List.mem_cons_self
  · obtain ⟨h1, h2⟩ := List.mem_filter.mp h0
    refine List.mem_cons_of_mem _ (List.mem_filter.mpr ⟨List.mem_map.mpr ⟨q0, h1, rfl⟩, ?_⟩)
    show (!(q0.1 == i) && (!(q0.1 == i + 1) && !(q0.1 + 1 == i && (ny_v E q0.2).category == 2))) = true
    rw [ny_v_cat]
    exact h2
theorem ny_ws_get (E : ny_E) {K : ny_K} (I : ny_I) (R : ny_R) {o : Nat} {kd : Nat × Nat} (ho : 5 ≤ o) (hk : K[o]? = some kd) : (ny_ws E K I R)[o - 5]? = some (ny_ph E o, ny_cell E kd (I o) (R o)) := by
  have hl : o < K.length := (List.getElem?_eq_some_iff.mp hk).1
  have e : o - 5 + 5 = o := by omega
  have ep : ny_ph E o = ny_sz E + (o - 5) := by
    unfold ny_ph
    rw [if_neg (by omega), if_neg (by omega), if_neg (by omega), if_neg (by omega)]
  unfold ny_ws
  rw [List.getElem?_map, List.getElem?_range (by omega), ep]
  show some (ny_sz E + (o - 5), ny_cell E (K.getD (o - 5 + 5) (0, 0)) (I (o - 5 + 5)) (R (o - 5 + 5))) = _
  rw [e, List.getD_eq_getElem?_getD, hk]
  rfl
theorem ny_ws_D (E : ny_E) (K : ny_K) (I : ny_I) (R : ny_R) : va_D (ny_A E) (ny_ws E K I R) := by
  have key : ∀ (k : Nat) (q : Nat × va_E), (ny_ws E K I R)[k]? = some q → q.1 = ny_sz E + k := by
    intro k q h
    unfold ny_ws at h
    rw [List.getElem?_map] at h
    obtain ⟨j, hj, rfl⟩ := Option.map_eq_some_iff.mp h
    have := List.getElem?_eq_some_iff.mp hj
    obtain ⟨_, e⟩ := this
    rw [List.getElem_range] at e
    subst e
    rfl
  refine ⟨fun i j p q hi hj h => ?_, fun k q h => ?_⟩
  · rw [key i p hi, key j q hj] at h
    omega
  · show ny_sz E ≤ q.1
    rw [key k q h]
    omega
theorem ny_ws_set (E : ny_E) {K : ny_K} {I I' : ny_I} {R R' : ny_R} {o : Nat} {kd : Nat × Nat} (ho : 5 ≤ o) (hk : K[o]? = some kd) (hI : ∀ c, c ≠ o → I' c = I c) (hR : ∀ c, c ≠ o → R' c = R c) :
    (ny_ws E K I R).set (o - 5) (ny_ph E o, ny_cell E kd (I' o) (R' o)) = ny_ws E K I' R' := by
  have hl : o < K.length := (List.getElem?_eq_some_iff.mp hk).1
  apply List.ext_getElem?
  intro j
  by_cases hj : j = o - 5
  · subst hj
    rw [ny_ws_get E I' R' ho hk, List.getElem?_set_self]
    unfold ny_ws
    rw [List.length_map, List.length_range]
    omega
  · rw [List.getElem?_set_ne (Ne.symm hj)]
    unfold ny_ws
    rw [List.getElem?_map, List.getElem?_map]
    by_cases hr : j < K.length - 5
    · rw [List.getElem?_range hr]
      show some (_, ny_cell E _ (I (j + 5)) (R (j + 5))) = some (_, ny_cell E _ (I' (j + 5)) (R' (j + 5)))
      rw [hI (j + 5) (by omega), hR (j + 5) (by omega)]
    · rw [List.getElem?_eq_none (by rw [List.length_range]; omega)]
      rfl
theorem ny_low {E : ny_E} {K : ny_K} {I : ny_I} {R : ny_R} {H : Heap} (h : ny_P E K I R H) {o : Nat} (ho : o < 5) : K[o]? = (ny_k5 E)[o]? := by
  rw [← h.1, List.getElem?_take_of_lt ho]
