/-! the constructors: one instruction each: writes of references, what is made, calls -/
def ny_AA (U : State) : Prop := ∃ (cA : ClassId) (kA : Class) (comp : ClassId), U.vm.findClass ("[" ++ (FieldType.array .int).toString) = some cA ∧ U.vm.classes[cA]? = some kA ∧ kA.kind = .array comp (.array .int) ∧ U.vm.findClass (FieldType.array .int).toString = some comp
def ny_AO (U : State) : Prop := va_AO "NymphRota$Moment" U ∧ va_AO "NymphRota$Sheet" U ∧ va_AO "NymphRota$Shelf" U ∧ ny_AA U
theorem ny_AO_mv {s U : State} (hW : s.WarmedH U.vm) (h : ny_AO s) : ny_AO U := by
  obtain ⟨h1, h2, h3, cA, kA, comp, h4, h5, h6, h7⟩ := h
  have hv := hW.alike
  obtain ⟨k', hk', he⟩ := hv.2.2 _ _ h5
  exact ⟨h1.moved hv, h2.moved hv, h3.moved hv, cA, k', comp, by rw [hv.findClass]; exact h4, hk', by rw [he]; exact h6, by rw [hv.findClass]; exact h7⟩
def ny_upR (R : ny_R) (c j x : Nat) : ny_R := fun c' j' => if c' = c ∧ j' = j then some x else R c' j'
theorem ny_upR_o (R : ny_R) (c j x : Nat) : ny_upR R c j x c = fun j' => if j' = j then some x else R c j' := by
  funext j'
  unfold ny_upR
  by_cases h : j' = j
  · rw [if_pos ⟨rfl, h⟩, if_pos h]
  · rw [if_neg (fun q => h q.2), if_neg h]
theorem ny_upR_n (R : ny_R) (c j x : Nat) : ∀ c', c' ≠ c → ny_upR R c j x c' = R c' := by
  intro c' h
  funext j'
  exact if_neg (fun q => h q.1)
theorem ny_dcm {own : Nat} {y : ny_M} {q : ny_Op} (hy : ny_chk own y = true) (h : q ∈ y.2.2.2.2.2) : (ny_cn.getD own "" = y.1.cls ∧ own < 18) ∧ decode y.2.1 q.1 = .ok (q.2.2.1, q.2.1) ∧ ny_okp own y.1.cls y.2.2.1 q = true := by
  unfold ny_chk at hy
  simp only [Bool.and_eq_true, decide_eq_true_eq] at hy
  have h2 := List.all_eq_true.mp hy.2 q h
  simp only [Bool.and_eq_true, decide_eq_true_eq] at h2
  exact ⟨hy.1, h2⟩
theorem ny_df_ok : ∀ a, a < 11 → ∀ k, k < (ny_Ks.getD a []).length → defaultValue (ny_ty a k) = if (ny_Ks.getD a []).getD k 9 = 1 then Value.null else Value.int 0 := by decide +kernel
theorem ny_rf_ok : ∀ a, a < 11 → ∀ k, k < (ny_Ks.getD a []).length → (ny_Ks.getD a []).getD k 9 = 1 → (ny_T a k).2.2.2 = true ∧ (ny_ty a k).isReference = true := by decide +kernel
theorem ny_fs_setR (E : ny_E) (ci : Nat) (i : Nat → Int32) (r : Nat → Option Nat) {k : Nat} (hk : k < (ny_Ks.getD ci []).length) (x : Nat) (h1 : (ny_Ks.getD ci []).getD k 9 = 1) :
    (ny_fs E ci i r).set k (.ref (ny_ph E x)) = ny_fs E ci i (fun j => if j = k then some x else r j) := by
  apply List.ext_getElem?
  intro j
  by_cases hj : j = k
  · subst hj
    rw [List.getElem?_set_self (by rw [ny_fs_len]; exact hk), ny_fs_at E ci i _ hk, if_pos h1, if_pos rfl]
    rfl
  · rw [List.getElem?_set_ne (Ne.symm hj)]
    by_cases hl : j < (ny_Ks.getD ci []).length
    · rw [ny_fs_at E ci _ r hl, ny_fs_at E ci _ _ hl, if_neg hj]
    · rw [List.getElem?_eq_none (by rw [ny_fs_len]; omega), List.getElem?_eq_none (by rw [ny_fs_len]; omega)]
theorem ny_refFit {ty : FieldType} (h : ty.isReference = true) (z : Nat) : narrow ty (.ref z) = .ref z ∧ fits ty (.ref z) = true := by
  cases ty <;> simp [FieldType.isReference] at h <;> exact ⟨rfl, rfl⟩
section NYCO
variable {p : Program} {l : Launch} {e : Env} {Rm : Room} {s : State} {m : MethodId} {args : Array Value} {below : List Frame} {meth : Method} {c : Code} {H : Heap} {locs : List Loc} {ls : Array Slot} {Q : State → Prop} {E : ny_E} {d mc ms k n : Nat} {K : ny_K} {R R' : ny_R} {I : ny_I} {y : ny_M} {own pc : Nat} {S : List Value}
theorem ny_putR {o : Nat} {kd : Nat × Nat} {H1 : Heap} {locs1 : List Loc} {ent : va_E} (hR : ny_Rl E K I R s H locs k) (h5 : 5 ≤ o) (hk : K[o]? = some kd) (hRR : ∀ c, c ≠ o → R' c = R c)
    (he : ent = ny_cell E kd (I o) (R' o)) (hP1 : va_P E.1 ny_cls ((ny_ws E K I R).set (o - 5) (ny_ph E o, ent)) H1) (hS1 : va_S (ny_A E) s.heap H1 locs1) : ny_Rl E K I R' s H1 locs1 k := by
  obtain ⟨⟨a1, a2, a3, ⟨a4, a5, a6⟩, a7⟩, -, a9⟩ := hR
  refine ⟨⟨a1, a2, a3, ⟨a4, a5, by rw [hRR 2 (by omega)]; exact a6⟩, ?_⟩, hS1, a9⟩
  rw [he, ny_ws_set E (I' := I) h5 hk (fun _ _ => rfl) hRR] at hP1
  exact hP1
theorem ny_Rl_app {kd : Nat × Nat} {H' : Heap} (h5 : 5 ≤ K.length) (hR : ny_Rl E K I R s H locs k) (hsz2 : H.size + 5 = ny_sz E + K.length) (o1 : ∀ q, q < H.size → H'[q]? = H[q]?) (z1 : H'.size = H.size + 1)
    (hn : va_at E.1 ny_cls (H.size, ny_cell E kd (I K.length) (R K.length)) H') : ny_Rl E (K ++ [kd]) I R s H' locs (k + 1) := by
  obtain ⟨hP, hS, hz⟩ := hR
  have hlen : (K ++ [kd]).length = K.length + 1 := by rw [List.length_append]; rfl
  have e : ny_sz E + (K.length - 5) = H.size := by omega
  refine ⟨ny_P_app h5 hP o1 (by rw [e]; exact hn), ⟨Nat.le_trans hS.1 (by omega), fun x h1 h2 => (o1 x (Nat.lt_of_lt_of_le h1 hS.1)).trans (hS.2.1 x h1 h2), hS.2.2⟩, by rw [hlen]; omega⟩
/-- a new object -/
theorem ny_w_new {index ci : Nat} (C : ny_C E p s m args meth c y Rm d mc ms) (hci : ci < 11)
    (hok : (ny_mem (.classLink y.1.cls index (ny_cn.getD ci "")) && ny_mem (.instantiable (ny_cn.getD ci "") ((ny_Ks.getD ci []).length)) && ny_mem (.initialized (ny_cn.getD ci ""))) = true)
    (hd : decode y.2.1 pc = .ok (.new index, 3)) (hR : ny_Rl E K I R s H locs k) (h5 : 5 ≤ K.length) (hI : I K.length = fun _ => 0) (hRz : R K.length = fun _ => none) (hk2 : k + 1 ≤ mc) (hn2 : n + (ny_Ks.getD ci []).length ≤ ms)
    (kk : ∀ H', ny_Rl E (K ++ [(0, ci)]) I R s H' locs (k + 1) → W p l e Rm s m args below meth c H' locs (k + 1) (n + (ny_Ks.getD ci []).length) Q (F0 m (pc + 3) ls ((Value.ref K.length :: S).map (ny_v E)))) :
    W p l e Rm s m args below meth c H locs k n Q (F0 m pc ls (S.map (ny_v E))) := by
  obtain ⟨hx, hb, hr, hml, hown, hts, hlo, hin, hf1, hf2, hc, hs, hSS, hX, hsz⟩ := id C
  simp only [Bool.and_eq_true] at hok
  refine ny_szW hsz hR fun hsz2 => ?_
  have hcl := ny_cls_at ci hci
  have hKn := hSS.1.1 ci _ hcl
  refine W.newcK hx hb hown (hts _ (ny_mem_tb hok.1.1)) (hts _ (ny_mem_tb hok.1.2)) (hts _ (ny_mem_tb hok.2)) rfl hd (by omega) (by omega) hKn.2.1 rfl fun H1 kC hkC e1 z1 o1 => ?_
  have hat : va_at E.1 ny_cls (H.size, ny_cell E (0, ci) (I K.length) (R K.length)) H1 := by
    rw [hI, hRz]
    refine ⟨_, hcl, (u_born (ny_ty ci) hts (ny_lay hcl) hKn hkC e1 (ny_ty_ok ci hci)).to fun j hj => ?_⟩
    show defaultValue (ny_ty ci j) = vp_V (ny_fs E ci (fun _ => 0) (fun _ => none)) j
    unfold vp_V
    rw [List.getD_eq_getElem?_getD, ny_fs_at E ci _ _ hj, ny_df_ok ci hci j hj]
    rfl
  have h := kk H1 (ny_Rl_app h5 hR hsz2 o1 z1 hat)
  rw [List.map_cons, ny_v_new h5 hsz2] at h
  exact h
/-- a new array of ints or bytes -/
theorem ny_w_newa {t N : Nat} {x : Int32} {ty : ArrayType} (C : ny_C E p s m args meth c y Rm d mc ms) (ht : (t = 1 ∧ ty = .int) ∨ (t = 2 ∧ ty = .byte)) (hN : N < 2 ^ 20) (hx0 : x = nI N)
    (hd : decode y.2.1 pc = .ok (.newarray ty, 2)) (hR : ny_Rl E K I R s H locs k) (h5 : 5 ≤ K.length) (hI : I K.length = fun _ => 0) (hk2 : k + 1 ≤ mc) (hn2 : n + N ≤ ms)
    (kk : ∀ H', ny_Rl E (K ++ [(t, N)]) I R s H' locs (k + 1) → W p l e Rm s m args below meth c H' locs (k + 1) (n + N) Q (F0 m (pc + 2) ls ((Value.ref K.length :: S).map (ny_v E)))) :
    W p l e Rm s m args below meth c H locs k n Q (F0 m pc ls ((Value.int x :: S).map (ny_v E))) := by
  subst hx0
  obtain ⟨hx, hb, hr, hml, hown, hts, hlo, hin, hf1, hf2, hc, hs, hSS, hX, hsz⟩ := id C
  refine ny_szW hsz hR fun hsz2 => ?_
  have hneg : ¬ nI N < 0 := fun q => absurd ((ny_lt (b := 0) (by omega) (by decide)).mp q) (by omega)
  rcases ht with ⟨rfl, rfl⟩ | ⟨rfl, rfl⟩
  · refine va_newaK hx hb (atype := .int) (hts _ (ny_mem_tb (by decide +kernel))) rfl hd rfl hneg (nI_clamp (by omega)) (by show N * 4 ≤ 536870912; omega) (by omega) (by omega) rfl fun H' cA e1 e2 e3 e4 e5 => ?_
    have hRA : s.vm.findClass ("[" ++ (FieldType.int).toString) = some (E.2.1 0) := (hSS.1.2 0 _ rfl).2
    have hcA : cA = E.2.1 0 := Option.some.inj (e5.symm.trans hRA)
    subst hcA
    have h := kk H' (ny_Rl_app h5 hR hsz2 e3 e2 (by
      rw [hI]
      show H'[H.size]? = some (vp_cell _ _)
      rw [e1]; rfl))
    rw [List.map_cons, ny_v_new h5 hsz2] at h
    exact h
  · refine va_newaK hx hb (atype := .byte) (hts _ (ny_mem_tb (by decide +kernel))) rfl hd rfl hneg (nI_clamp (by omega)) (by show N * 1 ≤ 536870912; omega) (by omega) (by omega) rfl fun H' cA e1 e2 e3 e4 e5 => ?_
    have hRA : s.vm.findClass ("[" ++ (FieldType.byte).toString) = some (E.2.1 1) := (hSS.1.2 1 _ rfl).2
    have hcA : cA = E.2.1 1 := Option.some.inj (e5.symm.trans hRA)
    subst hcA
    have h := kk H' (ny_Rl_app h5 hR hsz2 e3 e2 (by
      rw [hI]
      show H'[H.size]? = some (vp_cell _ _)
      rw [e1]; rfl))
    rw [List.map_cons, ny_v_new h5 hsz2] at h
    exact h
/-- a reference into a field of its own class, in a constructor -/
theorem ny_w_pfr {index b o x : Nat} (C : ny_C E p s m args meth c y Rm d mc ms) (ho : own < 11) (hcn : ny_cn.getD own "" = y.1.cls) (hR : ny_Rl E K I R s H locs k) (hok : (ny_FL.getD own []).contains (index, own, b) = true)
    (hd : decode y.2.1 pc = .ok (.putfield index, 3)) (hb3 : b % 3 = 1) (hini : y.2.2.2.2.1 = true) (hkd : ny_kd K o (0, own) = true) (hx4 : x ≠ 4)
    (kk : ∀ H' locs', ny_Rl E K I (ny_upR R o (b / 3) x) s H' locs' k → W p l e Rm s m args below meth c H' locs' k n Q (F0 m (pc + 3) ls (S.map (ny_v E)))) :
    W p l e Rm s m args below meth c H locs k n Q (F0 m pc ls ((Value.ref x :: .ref o :: S).map (ny_v E))) := by
  obtain ⟨hx, hb, hr, hml, hown, hts, hlk, hin, hf1, hf2, hc, hs, ⟨hK, hN⟩, hX, hsz⟩ := C
  obtain ⟨hP, hS, hz⟩ := id hR
  obtain ⟨hfl, ha, hbk, hkind⟩ := ny_fl_of (show own < 18 by omega) hok
  have hlink := hts _ hfl
  unfold ny_fl at hlink
  rw [hcn] at hlink
  have hcls := ny_cls_at own ho
  obtain ⟨hfin, href⟩ := ny_rf_ok own ho (b / 3) hbk (hkind.trans hb3)
  obtain ⟨h5, hws⟩ := ny_obj hP ho hkd
  obtain ⟨hn, hfit⟩ := ny_refFit href (ny_ph E x)
  rw [List.map_cons, List.map_cons, ny_ref h5, ny_refs hx4]
  refine va_putF (ref := (ny_T own (b / 3)).1) hx hb hts (ny_lay hcls) (ny_ty own) (ny_ty_ok own ho) (fun i hi j hj => ny_nm_ok own ho i hi j hj) hown hK hP.2.2.2.2 (ny_ws_D E K I R) hS (o - 5) hws hcls (b / 3) hbk hlink (fun _ h9 => h9) hfin (hin hini)
    ((ny_fd_ok own ho (b / 3) hbk).1.trans hcn) (ny_ty_ok own ho (b / 3) hbk) hn hfit (by rw [ny_fs_len]; exact hbk) hd (fun H1 locs1 hP1 hD1 hS1 => ?_)
  refine kk H1 locs1 (ny_putR hR h5 (of_decide_eq_true hkd) (ny_upR_n R o (b / 3) x) ?_ hP1 hS1)
  show Sum.inr (own, (ny_fs E own (I o) (R o)).set (b / 3) (.ref (ny_ph E x))) = Sum.inr (own, ny_fs E own (I o) (ny_upR R o (b / 3) x o))
  rw [ny_upR_o, ny_fs_setR E own (I o) (R o) hbk x (hkind.trans hb3)]
/-- an object into an array of its class -/
theorem ny_w_aast {t ci N o x : Nat} {j : Int32} (C : ny_C E p s m args meth c y Rm d mc ms) (hR : ny_Rl E K I R s H locs k) (ht : (t = 3 ∧ ci = 2) ∨ (t = 4 ∧ ci = 6) ∨ (t = 5 ∧ ci = 7)) (h5 : 5 ≤ o) (hKo : K[o]? = some (t, N)) (hkd : ny_kd K x (0, ci) = true) (hj : ny_in j N = true)
    (hd : decode y.2.1 pc = .ok (.aastore, 1))
    (kk : ∀ H' locs', ny_Rl E K I (ny_upR R o j.toNatClampNeg x) s H' locs' k → W p l e Rm s m args below meth c H' locs' k n Q (F0 m (pc + 1) ls (S.map (ny_v E)))) :
    W p l e Rm s m args below meth c H locs k n Q (F0 m pc ls ((Value.ref x :: .int j :: .ref o :: S).map (ny_v E))) := by
  obtain ⟨hx, hb, hr, hml, hown, hts, hlk, hin, hf1, hf2, hc, hs, ⟨hK, hN⟩, hX, hsz⟩ := C
  obtain ⟨hP, hS, hz⟩ := id hR
  have hci : ci < 11 := by omega
  have hcls := ny_cls_at ci hci
  obtain ⟨hx5, hwx⟩ := ny_obj hP hci hkd
  have hwo := ny_ws_get E I R h5 hKo
  have hup : ∀ cA : ClassId, (Sum.inl (cA, N, .inr (.inr (.inr (.inr (va_up (fun i => (R o i).map (ny_ph E)) j.toNatClampNeg (some (ny_ph E x))))))) : va_E) = Sum.inl (cA, N, .inr (.inr (.inr (.inr (fun i => (ny_upR R o j.toNatClampNeg x o i).map (ny_ph E)))))) := by
    intro cA
    have hf : va_up (fun i => (R o i).map (ny_ph E)) j.toNatClampNeg (some (ny_ph E x)) = fun i => (ny_upR R o j.toNatClampNeg x o i).map (ny_ph E) := by
      funext i
      rw [ny_upR_o]
      unfold va_up
      show (if i = j.toNatClampNeg then some (ny_ph E x) else (R o i).map (ny_ph E)) = (if i = j.toNatClampNeg then some x else R o i).map (ny_ph E)
      split <;> rfl
    rw [hf]
  rw [List.map_cons, List.map_cons, List.map_cons, ny_ref h5, ny_ref hx5]
  rcases ht with ⟨rfl, rfl⟩ | ⟨rfl, rfl⟩ | ⟨rfl, rfl⟩
  · refine va_astq hx hb hK hP.2.2.2.2 (ny_ws_D E K I R) hS (o - 5) 2 (x - 5) 2 hwo (by rfl) hwx hcls (ny_in_of hj) hd fun H1 locs1 hP1 hD1 hS1 => ?_
    exact kk H1 locs1 (ny_putR hR h5 hKo (ny_upR_n R o j.toNatClampNeg x) (hup _) hP1 hS1)
  · refine va_astq hx hb hK hP.2.2.2.2 (ny_ws_D E K I R) hS (o - 5) 3 (x - 5) 6 hwo (by rfl) hwx hcls (ny_in_of hj) hd fun H1 locs1 hP1 hD1 hS1 => ?_
    exact kk H1 locs1 (ny_putR hR h5 hKo (ny_upR_n R o j.toNatClampNeg x) (hup _) hP1 hS1)
  · refine va_astq hx hb hK hP.2.2.2.2 (ny_ws_D E K I R) hS (o - 5) 4 (x - 5) 7 hwo (by rfl) hwx hcls (ny_in_of hj) hd fun H1 locs1 hP1 hD1 hS1 => ?_
    exact kk H1 locs1 (ny_putR hR h5 hKo (ny_upR_n R o j.toNatClampNeg x) (hup _) hP1 hS1)
/-- a new array of references -/
theorem ny_w_newr {t ci N index : Nat} {x : Int32} (C : ny_C E p s m args meth c y Rm d mc ms) (hAO : ny_AO s) (ht : (t = 3 ∧ ci = 2) ∨ (t = 4 ∧ ci = 6) ∨ (t = 5 ∧ ci = 7)) (hN : N < 2 ^ 20) (hx0 : x = nI N)
    (hok : ny_mem (.classLink y.1.cls index (ny_cn.getD ci "")) = true)
    (hd : decode y.2.1 pc = .ok (.anewarray index, 3)) (hR : ny_Rl E K I R s H locs k) (h5 : 5 ≤ K.length) (hRz : R K.length = fun _ => none) (hk2 : k + 1 ≤ mc) (hn2 : n + N ≤ ms)
    (kk : ∀ H', ny_Rl E (K ++ [(t, N)]) I R s H' locs (k + 1) → W p l e Rm s m args below meth c H' locs (k + 1) (n + N) Q (F0 m (pc + 3) ls ((Value.ref K.length :: S).map (ny_v E)))) :
    W p l e Rm s m args below meth c H locs k n Q (F0 m pc ls ((Value.int x :: S).map (ny_v E))) := by
  subst hx0
  obtain ⟨hx, hb, hr, hml, hown, hts, hlo, hin, hf1, hf2, hc, hs, hSS, hX, hsz⟩ := id C
  refine ny_szW hsz hR fun hsz2 => ?_
  have hneg : ¬ nI N < 0 := fun q => absurd ((ny_lt (b := 0) (by omega) (by decide)).mp q) (by omega)
  have hcl : (nI N).toNatClampNeg = N := nI_clamp (by omega)
  have hlink := hts _ (ny_mem_tb hok)
  have key : ∀ (u : Nat) (Cn : String), (Cond.arrayOver (.object Cn)).before args s = true → ny_cn.getD ci "" = Cn → va_RA s (E.2.1 u) (.object Cn) → ny_cell E (t, N) (I K.length) (fun _ => none) = .inl (E.2.1 u, N, .inr (.inr (.inr (.inr fun _ => none)))) →
      W p l e Rm s m args below meth c H locs k n Q (F0 m pc ls ((Value.int (nI N) :: S).map (ny_v E))) := by
    intro u Cn hov hcn hra hcell
    rw [hcn] at hlink
    refine W.anew hx hb hown hlink hov rfl hd rfl hneg (by rw [hcl]; omega) (by omega) (by rw [hcl]; omega) fun cA kA comp f1 f2 f3 f4 => ?_
    obtain ⟨kA', comp', g1, g2, g3, g4⟩ := hra
    have hcA : cA = E.2.1 u := Option.some.inj (f1.symm.trans g4)
    subst hcA
    rw [hcl]
    generalize hH1 : H.push ({ cls := E.2.1 u, slots := Array.replicate N .null, vm := .none } : Cell) = H1
    have z1 : H1.size = H.size + 1 := by rw [← hH1, Array.size_push]
    have e1 : H1[H.size]? = some (arrV (E.2.1 u) N (fun _ => .null)) := by rw [← hH1, Array.getElem?_push_size, ← arrV_new]
    have o1 : ∀ q : Nat, q < H.size → H1[q]? = H[q]? := fun q hq => by rw [← hH1, Array.getElem?_push, if_neg (Nat.ne_of_lt hq)]
    have h := kk H1 (ny_Rl_app h5 hR hsz2 o1 z1 (by
      rw [hRz, hcell]
      show H1[H.size]? = some (vp_cell _ _)
      rw [e1]; rfl))
    rw [List.map_cons, ny_v_new h5 hsz2] at h
    exact h
  rcases ht with ⟨rfl, rfl⟩ | ⟨rfl, rfl⟩ | ⟨rfl, rfl⟩
  · exact key 2 "NymphRota$Moment" (va_AO.use hAO.1) rfl (hSS.1.2 2 _ rfl).2 rfl
  · exact key 3 "NymphRota$Sheet" (va_AO.use hAO.2.1) rfl (hSS.1.2 3 _ rfl).2 rfl
  · exact key 4 "NymphRota$Shelf" (va_AO.use hAO.2.2.1) rfl (hSS.1.2 4 _ rfl).2 rfl
/-- java/lang/Object's constructor -/
theorem ny_w_obj {index o : Nat} (C : ny_C E p s m args meth c y Rm (d + 1) mc ms) (hlk : ny_mem (.methodLink y.1.cls index Lib.objectInit) = true) (hd : decode y.2.1 pc = .ok (.invokespecial index, 3)) (hl : ls.size = y.2.2.1) (hS4 : S.length ≤ 4) (ho : 5 ≤ o)
    (kk : W p l e Rm s m args below meth c H locs k n Q (F0 m (pc + 3) ls (S.map (ny_v E)))) : W p l e Rm s m args below meth c H locs k n Q (F0 m pc ls ((Value.ref o :: S).map (ny_v E))) := by
  obtain ⟨hx, hb, hr, hml, hown, hts, hlo, hin, hf1, hf2, hc, hs, hSS, hX, hsz⟩ := id C
  have hcs := ny_catsum E S
  rw [List.map_cons, ny_ref ho]
  refine W.objInit hx hb hown (hts _ (ny_mem_tb hlk)) (hts _ (ny_mem_tb (by decide +kernel))) (hts _ (ny_mem_tb (by decide +kernel))) rfl (hl.trans hml.symm) rfl hd (by omega) ?_ kk
  show 2 * 0 + _ + 12 ≤ Rm.locals
  omega
end NYCO
