/-! multianewarray: four rows of three -/
def ny_mo (cA : ClassId) (h i : Nat) : Cell := arrV cA 4 (fun j => if j < i then Value.ref (h + 1 + j) else Value.null)
def ny_mi (cI : ClassId) : Cell := arrV cI 3 (fun _ => Value.int 0)
def ny_mt (T : State) (cA cI : ClassId) : Nat → State
  | 0 => T.pushCell (ny_mo cA T.heap.size 0)
  | i + 1 => ((ny_mt T cA cI i).pushCell (ny_mi cI)).setCell T.heap.size (ny_mo cA T.heap.size (i + 1))
theorem ny_mo_s (cA : ClassId) (h i : Nat) : (ny_mo cA h i).setSlot i (.ref (h + 1 + i)) = ny_mo cA h (i + 1) := by
  unfold ny_mo
  rw [arrV_store]
  congr 1
  funext j
  unfold updV
  by_cases hj : j = i
  · rw [if_pos hj, if_pos (by omega), hj]
  · rw [if_neg hj]
    show (if j < i then Value.ref (h + 1 + j) else Value.null) = if j < i + 1 then Value.ref (h + 1 + j) else Value.null
    by_cases h2 : j < i
    · rw [if_pos h2, if_pos (by omega)]
    · rw [if_neg h2, if_neg (by omega)]
theorem ny_mt_f (T : State) (cA cI : ClassId) : ∀ i, (ny_mt T cA cI i).heap.size = T.heap.size + 1 + i ∧ (ny_mt T cA cI i).heap[T.heap.size]? = some (ny_mo cA T.heap.size i) ∧ (∀ j, j < i → (ny_mt T cA cI i).heap[T.heap.size + 1 + j]? = some (ny_mi cI)) ∧
    (∀ q, q < T.heap.size → (ny_mt T cA cI i).heap[q]? = T.heap[q]?) ∧ (ny_mt T cA cI i).vm = T.vm ∧ (ny_mt T cA cI i).slotsUsed = T.slotsUsed + 4 + i * 3
  | 0 => by
    refine ⟨by simp [ny_mt], by simp [ny_mt], fun j hj => absurd hj (Nat.not_lt_zero j), fun q hq => ?_, rfl, ?_⟩
    · show (T.pushCell _).heap[q]? = _
      exact State.heap_pushCell_of_lt _ _ hq
    · simp [ny_mt, ny_mo, arrV_size]
  | i + 1 => by
    obtain ⟨a1, a2, a3, a4, a5, a6⟩ := ny_mt_f T cA cI i
    have hlt : ∀ q, q < T.heap.size + 1 + i → ((ny_mt T cA cI i).pushCell (ny_mi cI)).heap[q]? = (ny_mt T cA cI i).heap[q]? := fun q hq => State.heap_pushCell_of_lt _ _ (by rw [a1]; exact hq)
    have hb : ((ny_mt T cA cI i).pushCell (ny_mi cI)).heap[T.heap.size]? = some (ny_mo cA T.heap.size i) := (hlt _ (by omega)).trans a2
    refine ⟨?_, State.heap_setCell_self hb, fun j hj => ?_, fun q hq => ?_, ?_, ?_⟩
    · show (((ny_mt T cA cI i).pushCell (ny_mi cI)).setCell T.heap.size _).heap.size = _
      rw [size_setCell]
      simp [a1]
      omega
    · show (((ny_mt T cA cI i).pushCell (ny_mi cI)).setCell T.heap.size _).heap[_]? = _
      rw [State.heap_setCell_other (show T.heap.size ≠ T.heap.size + 1 + j by omega)]
      rcases Nat.lt_or_ge j i with h | h
      · rw [hlt _ (by omega)]
        exact a3 j h
      · rw [show T.heap.size + 1 + j = (ny_mt T cA cI i).heap.size by rw [a1]; omega]
        simp
    · show (((ny_mt T cA cI i).pushCell (ny_mi cI)).setCell T.heap.size _).heap[q]? = _
      rw [State.heap_setCell_other (show T.heap.size ≠ q by omega), hlt q (by omega)]
      exact a4 q hq
    · show (((ny_mt T cA cI i).pushCell (ny_mi cI)).setCell T.heap.size _).vm = _
      simpa using a5
    · show (((ny_mt T cA cI i).pushCell (ny_mi cI)).setCell T.heap.size _).slotsUsed = _
      simp [a6, ny_mi, arrV_size]
      omega
theorem ny_mt_top (T : State) (f : JFrame) (cA cI : ClassId) : ∀ i, ny_mt (T.setTop f) cA cI i = (ny_mt T cA cI i).setTop f
  | 0 => rfl
  | i + 1 => by
    show ((ny_mt (T.setTop f) cA cI i).pushCell (ny_mi cI)).setCell T.heap.size _ = _
    rw [ny_mt_top T f cA cI i]
    rfl
section NYMS
variable {p : Program} {l : Launch} {e : Env} {R : Room} {s : State} {m : MethodId} {args : Array Value} {below : List Frame} {meth : Method} {c : Code} {T : State} {locs : List Loc} {cells slots : Nat}
theorem ny_mt_st (X : Stand p l e R s m args below meth c T locs cells slots) (hge : s.heap.size ≤ T.heap.size) (cA cI : ClassId) : ∀ i, Stand p l e R s m args below meth c (ny_mt T cA cI i) locs (cells + 1 + i) (slots + 4 + i * 3)
  | 0 => by
    have h := X.pushed (ny_mo cA T.heap.size 0)
    rw [show (ny_mo cA T.heap.size 0).slots.size = 4 from arrV_size _ _ _] at h
    exact h
  | i + 1 => by
    have h0 := ny_mt_st X hge cA cI i
    obtain ⟨a1, a2, a3, a4, a5, a6⟩ := ny_mt_f T cA cI i
    have hlt : T.heap.size < (ny_mt T cA cI i).heap.size := by rw [a1]; omega
    have hb : ((ny_mt T cA cI i).pushCell (ny_mi cI)).heap[T.heap.size]? = some (ny_mo cA T.heap.size i) := (State.heap_pushCell_of_lt _ _ hlt).trans a2
    have h := (h0.pushed (ny_mi cI)).stored hb i (.ref (T.heap.size + 1 + i))
    rw [ny_mo_s, show (ny_mi cI).slots.size = 3 from arrV_size _ _ _, show slots + 4 + i * 3 + 3 = slots + 4 + (i + 1) * 3 by omega] at h
    refine Stand.forget h fun q hq => ?_
    rw [List.mem_singleton.mp hq]
    exact hge
end NYMS
section NYMW
variable {E : CtlPost} {e : Env} {d : Bool} {acts : List Action} {s : State}
theorem ny_mlp {f : Nat → PUnit → Sem (ForInStep PUnit)} {P : Nat → State} {Q : PUnit → Pre} (hf : ∀ i, i < 4 → ∀ (d : Bool) (acts : List Action) (Q' : ForInStep PUnit → Pre), (∀ d' acts', Q' (ForInStep.yield PUnit.unit) d' acts' (P (i + 1))) → wp (f i PUnit.unit) Q' E e d acts (P i))
    (hq : ∀ d' acts', Q PUnit.unit d' acts' (P 4)) : ∀ (r i : Nat) (d : Bool) (acts : List Action), i + r = 4 → wp (forIn (List.range' i r 1) PUnit.unit f) Q E e d acts (P i)
  | 0, i, d, acts, h => by
    rw [show i = 4 by omega]
    simp only [List.range'_zero, List.forIn_nil, wp_pure']
    exact hq _ _
  | r + 1, i, d, acts, h => by
    simp only [List.range'_succ, List.forIn_cons, wp_bind']
    exact hf i (by omega) d acts _ fun d' acts' => ny_mlp hf hq r (i + 1) d' acts' (by omega)
theorem ny_mw1 {cI cc : ClassId} {kI : Class} (hk : s.vm.classes[cI]? = some kI) (hkind : kI.kind = .array cc .int) (hl : ¬ 3 > e.platform.arrayLengthLimit) (hh : ¬ 3 * componentBytes .int > e.platform.maxHeapBytes)
    (h1 : s.heap.size < e.platform.maxCells) (h2 : s.slotsUsed + 3 ≤ e.platform.maxSlots) {Q : Addr → Pre} (hq : ∀ acts', Q s.heap.size d acts' (s.pushCell (ny_mi cI))) : wp (multianewarray.make cI [3]) Q E e d acts s := by
  rw [multianewarray.make]
  simp only [wp_bind', W.ite, wp_pure', W.theClass, hk, hkind, Option.some.injEq, exists_eq_left']
  rw [if_neg (by decide)]
  refine W.newArray_of (howMany := 3) hk hkind hl hh h1 h2 rfl fun acts' => ?_
  have e1 : ({ cls := cI, slots := Array.replicate 3 (defaultValue .int), vm := .none } : Cell) = ny_mi cI := arrV_new cI 3 (.int 0)
  exact e1 ▸ hq acts'
theorem ny_mw2 {cA cI cc : ClassId} {kA kI : Class} (hk : s.vm.classes[cA]? = some kA) (hkind : kA.kind = .array cI (.array .int)) (hkI : s.vm.classes[cI]? = some kI) (hkindI : kI.kind = .array cc .int)
    (hl4 : ¬ 4 > e.platform.arrayLengthLimit) (hh4 : ¬ 4 * componentBytes (.array .int) > e.platform.maxHeapBytes) (hl : ¬ 3 > e.platform.arrayLengthLimit) (hh : ¬ 3 * componentBytes .int > e.platform.maxHeapBytes)
    (h1 : s.heap.size + 5 ≤ e.platform.maxCells) (h2 : s.slotsUsed + 16 ≤ e.platform.maxSlots) {Q : Addr → Pre} (hq : ∀ d' acts', Q s.heap.size d' acts' (ny_mt s cA cI 4)) : wp (multianewarray.make cA [4, 3]) Q E e d acts s := by
  rw [multianewarray.make]
  simp only [wp_bind', W.ite, wp_pure', W.theClass, hk, hkind, Option.some.injEq, exists_eq_left']
  rw [if_neg (by decide)]
  refine W.newArray_of (howMany := 4) hk hkind hl4 hh4 (by omega) (by omega) rfl fun acts' => ?_
  have e1 : ({ cls := cA, slots := Array.replicate 4 .null, vm := .none } : Cell) = ny_mo cA s.heap.size 0 := by
    rw [arrV_new]
    unfold ny_mo
    congr 1
  have e2 : s.pushCell { cls := cA, slots := Array.replicate 4 .null } = ny_mt s cA cI 0 := congrArg s.pushCell e1
  show wp _ _ _ _ _ _ (s.pushCell { cls := cA, slots := Array.replicate 4 .null })
  rw [e2]
  rw [if_neg (by decide), wp_bind', Std.Legacy.Range.forIn_eq_forIn_range']
  refine ny_mlp (P := fun i => ny_mt s cA cI i) (fun i hi d acts Q' h => ?_) (fun d' acts' => ?_) 4 0 _ _ rfl
  · obtain ⟨a1, a2, a3, a4, a5, a6⟩ := ny_mt_f s cA cI i
    simp only [wp_bind']
    refine ny_mw1 (by rw [a5]; exact hkI) hkindI hl hh (by rw [a1]; omega) (by rw [a6]; omega) fun acts' => ?_
    simp only [wp_bind', W.writeLoc, wp_pure']
    have hlt : s.heap.size < (ny_mt s cA cI i).heap.size := by rw [a1]; omega
    refine ⟨ny_mo cA s.heap.size i, (State.heap_pushCell_of_lt _ _ hlt).trans a2, by simp [ny_mo, arrV], by rw [show (ny_mo cA s.heap.size i).slots.size = 4 from arrV_size _ _ _]; exact hi, ?_, ?_⟩
    · show (ny_mt s cA cI i).fitsSlot cA .none i _ = true
      simp [State.fitsSlot, State.slotType?, a5, hk, hkind]
      rfl
    · rw [a1, ny_mo_s]
      exact h _ _
  · simp only [wp_pure']
    exact hq _ _
end NYMW
section NYMX
variable {p : Program} {l : Launch} {e : Env} {Rm : Room} {s : State} {m : MethodId} {args : Array Value} {below : List Frame} {meth : Method} {c : Code} {H : Heap} {locs : List Loc} {ls : Array Slot} {Q : State → Prop} {E : ny_E} {d mc ms k n : Nat} {K : ny_K} {R R' : ny_R} {I : ny_I} {y : ny_M} {own pc : Nat} {S : List Value}
theorem ny_w_mul0 (hx : p.tables.exec = Jvm.exec) {cc : ByteArray} (hb : c.code = cc) {own : String} (hown : s.vm.findClass own = some m.cls) {index : Nat} (hlk : (Cond.classLink own index "[[I").before args s = true) (hAO : ny_AA s) (hint : (Cond.arrayClass .int).before args s = true)
    {g : JFrame} (hg : g.method = m) {rest : List Value} (hstack : g.stack = .int 3 :: .int 4 :: rest) (hd : decode cc g.pc = .ok (.multianewarray index 2, 4)) (hge : s.heap.size ≤ H.size) (hk2 : k + 5 ≤ Rm.cells) (hn2 : n + 16 ≤ Rm.slots)
    (kk : ∀ (T : State) (cA cI : ClassId), T.heap = H → s.vm.findClass ("[" ++ (FieldType.array .int).toString) = some cA → s.vm.findClass ("[" ++ FieldType.int.toString) = some cI →
      W p l e Rm s m args below meth c (ny_mt T cA cI 4).heap locs (k + 5) (n + 16) Q { g with pc := g.pc + 4, stack := .ref H.size :: rest }) : W p l e Rm s m args below meth c H locs k n Q g := by
  intro T hT X
  subst hb; subst hg
  have hpl : e.platform.magicAccessors = ({} : Platform).magicAccessors := by rw [X.admits.platform]
  obtain ⟨cA, kA, cI, f1, f2, f3, f4⟩ := hAO
  obtain ⟨cI', kI, cc, g1, g2, g3⟩ := Cond.arrayClass_spec hint
  have eI : cI' = cI := Option.some.inj (g1.symm.trans f4)
  subst eI
  obtain ⟨c0, i1, i2⟩ := Cond.classLink_spec hown hlk e.platform hpl
  have eA : cA = c0 := Option.some.inj (f1.symm.trans i1)
  subst eA
  obtain ⟨hg1, hw1, hr1⟩ := State.classEntry (e := e) X.warmed i2
  generalize T.vm.noted g.method.cls index (.cls cA) = vm1 at hg1 hw1 hr1
  obtain ⟨kA1, j1, j2⟩ := hw1.alike.2.2 _ _ f2
  obtain ⟨kI1, j3, j4⟩ := hw1.alike.2.2 _ _ g2
  have hkA : kA1.kind = .array cI' (.array .int) := by rw [j2]; exact f3
  have hkI : kI1.kind = .array cc .int := by rw [j4]; exact g3
  have X1 := X.noted hw1
  have XF := ny_mt_st X1 (by show s.heap.size ≤ T.heap.size; rw [hT]; exact hge) cA cI' 4
  obtain ⟨r1, r2⟩ := X.roomAbove hk2 hn2
  have hlim := Launch.admits_arrayLengthLimit X.admits
  have hmax := Launch.admits_maxHeapBytes X.admits
  obtain ⟨t, a1, b1⟩ := kk (T.setVm vm1) cA cI' hT f1 f4 _ rfl XF
  refine ⟨t, ?_, b1⟩
  jvm_step X.here [hx, hd]
  simp only [multianewarray.sem, wp_bind', W.resolveClassAt_links (State.method?_setTop g X.here.top) hg1]
  rw [W.popN, if_neg (by decide)]
  refine ⟨g, State.topJava?_setTop' (s := T.setVm vm1) g X.here.top, [.int 4, .int 3], rest, rfl, hstack, ?_⟩
  simp only [List.mapM_cons, List.mapM_nil, wp_bind', wp_pure']
  refine ny_mw2 (s := ((T.setTop g).setVm vm1).setTop { g with stack := rest }) (kA := kA1) (kI := kI1) j1 hkA j3 hkI (by omega) (by rw [hmax]; decide) (by omega) (by rw [hmax]; decide) (by show T.heap.size + 5 ≤ _; exact r1) (by show T.slotsUsed + 16 ≤ _; exact r2) fun d' acts' => ?_
  have eS : ((T.setTop g).setVm vm1).setTop { g with stack := rest } = (T.setVm vm1).setTop { g with stack := rest } := by
    show ((T.setVm vm1).setTop g).setTop _ = _
    rw [State.setTop_setTop]
  rw [eS, ny_mt_top]
  simp only [wp_bind', W.mark, W.pushRef, State.topJava?_setTop' _ XF.here.top, Option.some.injEq, exists_eq_left', State.setTop_setTop, State.heap_setTop]
  intro acts
  simp [jvm, XF.here.top]
  rw [← hT] at a1
  exact a1
theorem ny_P_R (h : ∀ c, c < K.length → R' c = R c) (h5 : 5 ≤ K.length) (hP : ny_P E K I R H) : ny_P E K I R' H := by
  obtain ⟨a1, a2, a3, ⟨a4, a5, a6⟩, a7⟩ := hP
  refine ⟨a1, a2, a3, ⟨a4, a5, by rw [h 2 (by omega)]; exact a6⟩, ?_⟩
  have e : ny_ws E K I R' = ny_ws E K I R := by
    unfold ny_ws
    refine List.map_congr_left fun j hj => ?_
    rw [h (j + 5) (by have := List.mem_range.mp hj; omega)]
  rw [e]
  exact a7
def ny_mR (R : ny_R) (m : Nat) : ny_R := ny_upR (ny_upR (ny_upR (ny_upR R m 0 (m + 1)) m 1 (m + 2)) m 2 (m + 3)) m 3 (m + 4)
theorem ny_mR_n (R : ny_R) (m : Nat) : ∀ c, c ≠ m → ny_mR R m c = R c := by
  intro c h
  unfold ny_mR
  rw [ny_upR_n _ _ _ _ c h, ny_upR_n _ _ _ _ c h, ny_upR_n _ _ _ _ c h, ny_upR_n _ _ _ _ c h]
theorem ny_mR_o (R : ny_R) (m : Nat) (h : R m = fun _ => none) (j : Nat) : ny_mR R m m j = if j < 4 then some (m + 1 + j) else none := by
  unfold ny_mR
  simp only [ny_upR_o, h]
  by_cases h4 : j < 4
  · rw [if_pos h4]
    rcases (show j = 0 ∨ j = 1 ∨ j = 2 ∨ j = 3 by omega) with rfl | rfl | rfl | rfl <;> rfl
  · rw [if_neg (by omega), if_neg (by omega), if_neg (by omega), if_neg (by omega), if_neg h4]
theorem ny_w_mul {index : Nat} (C : ny_C E p s m args meth c y Rm d mc ms) (hAO : ny_AO s) (hlk : ny_mem (.classLink y.1.cls index "[[I") = true) (hd : decode y.2.1 pc = .ok (.multianewarray index 2, 4)) (hR : ny_Rl E K I R s H locs k) (h5 : 5 ≤ K.length)
    (hI : ∀ j, I (K.length + 1 + j) = fun _ => 0) (hRz : R K.length = fun _ => none) (hk2 : k + 5 ≤ mc) (hn2 : n + 16 ≤ ms)
    (kk : ∀ H', ny_Rl E (K ++ [(6, 4), (1, 3), (1, 3), (1, 3), (1, 3)]) I (ny_mR R K.length) s H' locs (k + 5) → W p l e Rm s m args below meth c H' locs (k + 5) (n + 16) Q (F0 m (pc + 4) ls ((Value.ref K.length :: S).map (ny_v E)))) :
    W p l e Rm s m args below meth c H locs k n Q (F0 m pc ls ((Value.int 3 :: .int 4 :: S).map (ny_v E))) := by
  obtain ⟨hx, hb, hr, hml, hown, hts, hlo, hin, hf1, hf2, hc, hs, hSS, hX, hsz⟩ := id C
  refine ny_szW hsz hR fun hsz2 => ?_
  refine ny_w_mul0 hx hb hown (hts _ (ny_mem_tb hlk)) hAO.2.2.2 (hts _ (ny_mem_tb (by decide +kernel))) rfl rfl hd hR.2.1.1 (by omega) (by omega) fun T cA cI hT f1 f2 => ?_
  have hA : cA = E.2.1 5 := Option.some.inj (f1.symm.trans (hSS.1.2 5 _ rfl).2)
  have hI0 : cI = E.2.1 0 := Option.some.inj (f2.symm.trans (hSS.1.2 0 _ rfl).2)
  subst hA; subst hI0
  obtain ⟨a1, a2, a3, a4, a5, a6⟩ := ny_mt_f T (E.2.1 5) (E.2.1 0) 4
  rw [hT] at a1 a2 a3 a4
  generalize hH' : (ny_mt T (E.2.1 5) (E.2.1 0) 4).heap = H' at a1 a2 a3 a4
  obtain ⟨hP, hS, hz⟩ := hR
  have e0 : ∀ j, ny_sz E + (K.length + j - 5) = H.size + j := fun j => by omega
  have P0 : ny_P E K I (ny_mR R K.length) H := ny_P_R (fun c hc => ny_mR_n R _ c (by omega)) h5 hP
  have P1 : ny_P E (K ++ [(6, 4)]) I (ny_mR R K.length) H' := ny_P_app h5 P0 a4 (by
    rw [show ny_sz E + (K.length - 5) = H.size from e0 0]
    show H'[H.size]? = some (vp_cell _ _)
    rw [a2, vp_cell_q]
    unfold ny_mo
    congr 2
    funext j
    rw [ny_mR_o R _ hRz]
    by_cases h4 : j < 4
    · rw [if_pos h4, if_pos h4]
      show _ = Value.ref (ny_ph E (K.length + 1 + j))
      unfold ny_ph
      rw [if_neg (by omega), if_neg (by omega), if_neg (by omega), if_neg (by omega), show ny_sz E + (K.length + 1 + j - 5) = H.size + 1 + j by omega]
    · rw [if_neg h4, if_neg h4]
      rfl)
  have row : ∀ (K' : ny_K) (j : Nat), j < 4 → K'.length = K.length + 1 + j → ny_P E K' I (ny_mR R K.length) H' → ny_P E (K' ++ [(1, 3)]) I (ny_mR R K.length) H' := by
    intro K' j hj hl hP'
    refine ny_P_app (by omega) hP' (fun _ _ => rfl) ?_
    rw [hl, hI j, show ny_sz E + (K.length + 1 + j - 5) = H.size + 1 + j by omega]
    show H'[H.size + 1 + j]? = some (vp_cell _ _)
    rw [a3 j hj]
    rfl
  have P2 := row _ 0 (by decide) (by rw [List.length_append]; rfl) P1
  have P3 := row _ 1 (by decide) (by rw [List.length_append, List.length_append]; rfl) P2
  have P4 := row _ 2 (by decide) (by rw [List.length_append, List.length_append, List.length_append]; rfl) P3
  have P5 := row _ 3 (by decide) (by rw [List.length_append, List.length_append, List.length_append, List.length_append]; rfl) P4
  rw [List.append_assoc, List.append_assoc, List.append_assoc, List.append_assoc] at P5
  have h := kk H' ⟨P5, ⟨Nat.le_trans hS.1 (by omega), fun x h1 h2 => (a4 x (Nat.lt_of_lt_of_le h1 hS.1)).trans (hS.2.1 x h1 h2), hS.2.2⟩, by rw [List.length_append]; show _ = ny_sz E + (K.length + 5); omega⟩
  rw [List.map_cons, ny_v_new h5 hsz2] at h
  exact h
end NYMX
