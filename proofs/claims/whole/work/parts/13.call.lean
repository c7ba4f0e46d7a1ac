/-! calls -/
def ny_W (y : ny_M) : List Cond := .code y.1 y.2.1 y.2.2.1 y.2.2.2.1 :: ny_tb
def ny_rm (d mc ms : Nat) : Room := { frames := d + 1, cells := mc, slots := ms, locals := 64 * (d + 1) }
def ny_Pre (E : ny_E) (av : List Value) (K : ny_K) (I : ny_I) (R : ny_R) : Array Value → State → Prop :=
  va_Pc (av.map (ny_v E)) (fun U => ny_S E U ∧ ny_X E U U.heap ∧ ny_sz E ≤ U.heap.size ∧ ny_P E K I R U.heap ∧ U.heap.size + 5 = ny_sz E + K.length)
def ny_Post (E : ny_E) (mc : Nat) (K : ny_K) (Ret : ny_Q) : Array Value → State → Outcome → State → Prop := fun _ st oc t =>
  (∃ (v : Option Value) (K' : ny_K) (I' : ny_I) (R' : ny_R), oc = .returned (v.map (ny_v E)) ∧ Ret v K' I' R' ∧ ny_P E K' I' R' t.heap ∧ K'.length = K.length + mc) ∧ va_F (ny_A E) st t
/-- from every state that holds the memory, the method returns, and Ret holds of what it gives and of the memory then -/
def ny_Call (d mc ms : Nat) (z : ny_M) (av : List Value) (K : ny_K) (I : ny_I) (R : ny_R) (Ret : ny_Q) : Prop :=
  ∀ (l : Launch) (E : ny_E), Met l z.1 (ny_W z) (ny_rm d mc ms) (ny_Pre E av K I R) (ny_Post E mc K Ret) mc ms (ny_A E)
theorem ny_S_mv {E : ny_E} {s U : State} (hW : s.WarmedH U.vm) (h : ny_S E s) : ny_S E U := ⟨va_K.moved hW.alike h.1, fun q hq => va_Nw.warmM hW (h.2 q hq)⟩
theorem ny_X_mv {E : ny_E} {s U : State} {H : Heap} {locs : List Loc} (hW : s.WarmedH U.vm) (hsz : ny_sz E ≤ s.heap.size) (hS : va_S (ny_A E) s.heap H locs) (h : ny_X E s s.heap) : ny_X E U H := by
  obtain ⟨h1, h2, h3, h4, h5, h6, h7, h8⟩ := h
  have hq : ∀ a : Nat, a < s.heap.size → ¬ ny_A E a → H[a]? = s.heap[a]? := hS.2.1
  exact ⟨(h1.moved hW.alike).kept (hq _ (Nat.lt_of_lt_of_le h2 hsz) (Nat.not_le.mpr h2)), h2, (h3.moved hW.alike).kept hq, (h4.moved hW.alike).kept hq, (h5.moved hW.alike).kept hq, (h6.moved hW.alike).kept hq, h7.warm hW, (h8.moved hW.alike).kept hq⟩
theorem ny_args_map (E : ny_E) : ∀ (av : List Value) (i : Nat), lv_args i (av.map (ny_v E)) = (lv_args i av).map (ny_lv E)
  | [], _ => rfl
  | v :: vs, i => by
    rw [List.map_cons, lv_args, lv_args, List.map_cons, ny_v_cat, ny_args_map E vs]
    rfl
theorem ny_sl_len (E : ny_E) (av : List Value) : (lg_sl (av.map (ny_v E))).length = (lg_sl av).length := by
  induction av with
  | nil => rfl
  | cons v vs ih =>
    unfold lg_sl at ih ⊢
    rw [List.map_cons, List.flatMap_cons, List.flatMap_cons, List.length_append, List.length_append, ih, ny_v_cat]
    split <;> rfl
theorem ny_blind (E : ny_E) (av : List Value) (K : ny_K) (I : ny_I) (R : ny_R) : FrameBlind (ny_Pre E av K I R) := by
  intro a U g mk ⟨h0, h1, h2, h3, h4, h5⟩
  have hW : U.WarmedH (U.calling g mk a).vm := State.WarmedH.refl U
  have h2' : ny_X E (U.calling g mk a) U.heap := ny_X_mv (locs := []) hW h3 va_S.rf h2
  exact ⟨h0, ny_S_mv hW h1, h2', h3, h4, h5⟩
theorem ny_enter {d mc ms : Nat} {z : ny_M} {av : List Value} {K : ny_K} {I : ny_I} {R : ny_R} {Ret : ny_Q} (hpl : plainName z.1.cls = true) (hin : z.2.2.2.2.1 = true → z.1.name = "<init>") (hL : (lg_sl av).length ≤ z.2.2.1)
    (h : ny_G d mc ms z 0 (lv_args 0 av) [] K I R 0 0 Ret) : ny_Call d mc ms z av K I R Ret := by
  intro l E
  refine Met.ofW (cc := z.2.1) (maxL := z.2.2.1) (ret := z.2.2.2.1) hpl rfl ?_
  intro p e s m args below meth c s₁ B hml hv
  obtain ⟨rfl, hS, hX, hsz, hP, hz⟩ := hv
  have hx := B.exec
  have hb := B.bytes
  have hr := B.returns
  have hts0 := atoms_spec (ws := ny_W z) B.pre
  have hown : s.vm.findClass z.1.cls = some m.cls := findClass_of_methodNamed B.named
  have hlocks := B.notSynchronized
  have hnm : meth.name = z.1.name := (name_of_methodNamed B.named B.method).1
  have C : ny_C E p s m (av.map (ny_v E)).toArray meth c z (headSpec (ny_W z) (ny_rm d mc ms)).room d mc ms :=
    ⟨hx, hb, hr, hml, hown, fun w hw => hts0 w (List.mem_cons_of_mem _ hw), hlocks, fun q => hnm.trans (hin q), Nat.le_refl _, Nat.le_refl _, rfl, rfl, hS, hX, hsz⟩
  rw [lg_entry_eq]
  have hl := lv_entry (av.map (ny_v E)) (n := z.2.2.1) (by rw [ny_sl_len]; exact hL)
  rw [ny_args_map] at hl
  refine h p l e _ s m _ below meth c s.heap [] _ _ E C (Nat.zero_le _) (Nat.zero_le _) ⟨hP, va_S.rf, by omega⟩ hl ?_
  intro v K' I' R' H' locs' pc' ls' hRet hR' hrt
  obtain ⟨hP', hS', hz'⟩ := hR'
  have hlen : K'.length = K.length + mc := by omega
  have hpost : ∀ t : State, t.heap = H' → s.WarmedH t.vm → ny_Post E mc K Ret (av.map (ny_v E)).toArray s (.returned (v.map (ny_v E))) t := fun t ht _ => ⟨⟨v, K', I', R', rfl, hRet, by rw [ht]; exact hP', hlen⟩, hS'.F ht⟩
  unfold ny_rt at hrt
  split at hrt
  next => exact W.vret hx hb (hr.trans hrt.2) hpost hS'.2.2 hrt.1
  next x =>
    obtain ⟨hd, ty, h1, h2⟩ := hrt
    exact W.zret hx hb (hr.trans h1) h2 hpost hS'.2.2 hd
  next o =>
    obtain ⟨hd, h4, nm, h1⟩ := hrt
    have e : ny_v E (.ref o) = .ref (ny_ph E o) := ny_refs h4
    rw [show (some (Value.ref o)).toList.map (ny_v E) = [ny_v E (.ref o)] from rfl, e]
    rw [show (some (Value.ref o)).map (ny_v E) = some (ny_v E (.ref o)) from rfl, e] at hpost
    exact W.aret hx hb (hr.trans h1) (Or.inl ⟨nm, rfl⟩) (Or.inr ⟨_, rfl⟩) hpost hS'.2.2 hd
  next => exact hrt.elim
theorem ny_good {ws : List Cond} (h : ∀ w ∈ ws, w ∈ ny_tb) : GoodIn ny_tb ws := fun w hw => ⟨h w hw, good_of_word (List.mem_filter.mp (h w hw)).2⟩
/-- of a method that is called: its words -/
def ny_zb (z : ny_M) (na : Nat) : Bool := ny_mem (.initialized z.1.cls) && ny_mem (.code z.1 z.2.1 z.2.2.1 z.2.2.2.1) && plainName z.1.cls && decide (z.1.cls ≠ "java/lang/invoke/MethodHandle" ∧ z.1.cls ≠ "java/lang/invoke/VarHandle" ∧ (parseMethodDescriptor z.1.desc).map (fun d => d.parameters.length) = some na) && decide (z.2.2.1 ≤ 30) && (!z.2.2.2.2.1 || decide (z.1.name = "<init>"))
def ny_zv (z : ny_M) (na : Nat) : Bool := ny_zb z na && ny_mem (.instanceMethod z.1) && ny_mem (.selects z.1.cls z.1 z.1)
def ny_zs (z : ny_M) (na : Nat) : Bool := ny_zb z na && ny_mem (.static z.1)
def ny_zi (z : ny_M) (na : Nat) : Bool := ny_zb z na && ny_mem (.instanceMethod z.1) && decide (z.1.name = "<init>") && decide (z.2.2.2.1 = none)
theorem ny_ent {d mc ms na : Nat} {z : ny_M} {av : List Value} {K : ny_K} {I : ny_I} {R : ny_R} {Ret : ny_Q} (hz : ny_zb z na = true) (hL : (lg_sl av).length ≤ z.2.2.1) (h : ny_G d mc ms z 0 (lv_args 0 av) [] K I R 0 0 Ret) : ny_Call d mc ms z av K I R Ret := by
  simp only [ny_zb, Bool.and_eq_true, Bool.or_eq_true, Bool.not_eq_true', decide_eq_true_eq] at hz
  refine ny_enter hz.1.1.1.2 (fun q => ?_) hL h
  rcases hz.2 with h | h
  · rw [h] at q; cases q
  · exact h
section NYCL
variable {p : Program} {l : Launch} {e : Env} {Rm : Room} {s : State} {m : MethodId} {args : Array Value} {below : List Frame} {meth : Method} {c : Code} {H : Heap} {locs : List Loc} {ls : Array Slot} {Q : State → Prop} {E : ny_E} {d mc ms k n : Nat} {K : ny_K} {R : ny_R} {I : ny_I} {y z : ny_M}
/-- how much is made is known -/
theorem ny_szW {g : JFrame} (hsz : ny_sz E ≤ s.heap.size) (hR : ny_Rl E K I R s H locs k) (h : H.size + 5 = ny_sz E + K.length → W p l e Rm s m args below meth c H locs k n Q g) : W p l e Rm s m args below meth c H locs k n Q g := by
  intro T hT X
  refine h ?_ T hT X
  have h1 := X.heapSize
  rw [hT] at h1
  obtain ⟨hP, hS, hz⟩ := hR
  have h5 : 5 ≤ K.length := by
    have h2 := congrArg List.length hP.1
    rw [List.length_take] at h2
    have : (ny_k5 E).length = 5 := rfl
    omega
  have h3 : ny_sz E + K.length ≤ H.size + 5 := by
    rcases Nat.lt_or_ge 5 K.length with h6 | h6
    · have hk : ∃ kd, K[K.length - 1]? = some kd := ⟨K[K.length - 1]'(by omega), List.getElem?_eq_getElem (by omega)⟩
      obtain ⟨kd, hk⟩ := hk
      have h7 := (hP.2.2.2.2 _ _ (ny_ws_get E I R (by omega) hk)).lt
      have h8 : ny_ph E (K.length - 1) = ny_sz E + (K.length - 1 - 5) := by
        unfold ny_ph
        rw [if_neg (by omega), if_neg (by omega), if_neg (by omega), if_neg (by omega)]
      have h7 : ny_ph E (K.length - 1) < H.size := h7
      omega
    · have := hS.1
      omega
  omega
theorem ny_cont {pc mc' ms' : Nat} {st0 rest : List Value} {Ret' : ny_Q} {a : Array Value} (hr : va_Run p l e Rm s m args below meth c H locs k n mc' ms' (F0 m pc ls st0) rest (ny_Post E mc' K Ret' a) (ny_A E)) (hS : va_S (ny_A E) s.heap H locs)
    (kk : ∀ (v : Option Value) (K' : ny_K) (I' : ny_I) (R' : ny_R) (H1 : Heap) (locs1 : List Loc), Ret' v K' I' R' → ny_P E K' I' R' H1 → K'.length = K.length + mc' → va_S (ny_A E) s.heap H1 locs1 → W p l e Rm s m args below meth c H1 locs1 (k + mc') (n + ms') Q (F0 m (pc + 3) ls ((v.map (ny_v E)).toList ++ rest))) : W p l e Rm s m args below meth c H locs k n Q (F0 m pc ls st0) := by
  intro T hT X
  obtain ⟨v, st₀, t, T', L, h0, X', hL, e1, e2, ⟨⟨v', K', I', R', hv, hRet, hP', hlen⟩, hz, hk⟩, st⟩ := hr T hT X
  cases hv
  rw [h0] at hz hk
  obtain ⟨t2, a1, b1⟩ := kk v' K' I' R' T'.heap (locs ++ L) hRet (by rw [e1]; exact hP') hlen
    ⟨Nat.le_trans hS.1 (by rw [e1]; exact hz), fun q h1 h2 => by rw [e1, hk q (Nat.lt_of_lt_of_le h1 hS.1) h2]; exact hS.2.1 q h1 h2, fun q hq => by
      rcases List.mem_append.mp hq with h | h
      · exact hS.2.2 q h
      · exact hL q h⟩ T' rfl X'
  exact ⟨t2, st t2 a1, b1⟩
theorem ny_pre_at {av : List Value} (C : ny_C E p s m args meth c y Rm d mc ms) (hR : ny_Rl E K I R s H locs k) (hsz2 : H.size + 5 = ny_sz E + K.length) : ∀ U : State, U.heap = H → s.WarmedH U.vm → ny_Pre E av K I R (av.map (ny_v E)).toArray U := by
  obtain ⟨hx, hb, hr, hml, hown, hts, hlk, hin, hf1, hf2, hc, hs, hSS, hX, hsz⟩ := C
  obtain ⟨hP, hS, hz⟩ := hR
  intro U hU hW
  refine ⟨rfl, ny_S_mv hW hSS, ?_, ?_, ?_, ?_⟩
  · rw [hU]; exact ny_X_mv hW hsz hS hX
  · rw [hU]; exact Nat.le_trans hsz hS.1
  · rw [hU]; exact hP
  · rw [hU]; exact hsz2
end NYCL
section NYCM
variable {d mc ms own : Nat} {y z : ny_M} {pc i a b idx na mc' ms' : Nat} {v : Int32} {w : Int64} {L : ny_Lc} {S St av : List Value} {K : ny_K} {I : ny_I} {R : ny_R} {k n : Nat} {Ret Ret' : ny_Q}
theorem ny_callV {o ci : Nat} (hy : ny_chk own y = true) (hi : y.2.2.2.2.2[i]? = some (pc, 3, .invokevirtual idx, a, b, v, w)) (hz : ny_zv z na = true) (hlk : ny_mem (.methodLink y.1.cls idx z.1) = true) (hkd : ny_kd K o (0, ci) = true) (hci : ci < 11) (hcn : ny_cn.getD ci "" = z.1.cls)
    (hst : St = av.reverse ++ .ref o :: S) (hna : av.length = na) (hbud : k + mc' ≤ mc ∧ n + ms' ≤ ms) (hS4 : S.length ≤ 4) (hcall : ny_Call d mc' ms' z (.ref o :: av) K I R Ret')
    (kk : ∀ v K' I' R', Ret' v K' I' R' → ny_G (d + 1) mc ms y (pc + 3) L (v.toList ++ S) K' I' R' (k + mc') (n + ms') Ret) : ny_G (d + 1) mc ms y pc L St K I R k n Ret := by
  intro p l e Rm s m args below meth c H locs ls Q E C hk hn hR hl hq
  have hd := ny_dec hy hi
  simp only [ny_zv, ny_zb, Bool.and_eq_true, decide_eq_true_eq] at hz
  obtain ⟨⟨⟨⟨⟨⟨⟨hz1, hz2⟩, hz3⟩, hz4⟩, hz5⟩, -⟩, hz6⟩, hz7⟩ := hz
  obtain ⟨hx, hb, hr, hml, hown, hts, hlo, hin, hf1, hf2, hc, hs, hSS, hX, hsz⟩ := id C
  refine ny_szW hsz hR fun hsz2 => ?_
  obtain ⟨h5, hws⟩ := ny_obj hR.1 hci hkd
  have hcs := ny_catsum E S
  have cw : CallW Rm s args y.1.cls z.1.cls idx z.1 z.2.1 z.2.2.1 z.2.2.2.1 (ny_W z) (ny_rm d mc' ms') mc' ms' na := by
    refine cwV na hts (ny_good ?_) rfl rfl rfl ⟨rfl, hz4⟩ ⟨hf1, ?_⟩
    · intro w hw
      unfold wsV ny_W at hw
      simp only [List.cons_append, List.nil_append, List.mem_cons] at hw
      rcases hw with rfl | rfl | rfl | rfl | rfl | hw
      · exact ny_mem_tb hlk
      · exact ny_mem_tb hz6
      · exact ny_mem_tb hz7
      · exact ny_mem_tb hz1
      · exact ny_mem_tb hz2
      · exact hw
    · show 8 + (z.2.2.1 + 11) + 64 * (d + 1) ≤ Rm.locals
      omega
  have hrecv := va_recv hSS.1 hR.1.2.2.2.2 (ny_cls_at ci hci) hws
  rw [hcn] at hrecv
  have hpre := ny_pre_at (av := .ref o :: av) C hR hsz2
  rw [List.map_cons, ny_ref h5] at hpre
  subst hst
  rw [List.map_append, List.map_cons, List.map_reverse, ny_ref h5]
  refine ny_cont (va_runV (rest := S.map (ny_v E)) ⟨hx, hb, hml, hown, hts⟩ (hcall l E) cw ⟨ny_blind E _ K I R, hrecv, hpre⟩ rfl (by rw [List.length_map]; exact hna) hl.1 rfl (lv_room (by omega)) hd ⟨by omega, by omega⟩) hR.2.1 fun v K' I' R' H1 locs1 h1 h2 h3 h4 => ?_
  have eqv : (v.map (ny_v E)).toList ++ S.map (ny_v E) = (v.toList ++ S).map (ny_v E) := by cases v <;> simp
  rw [eqv]
  have hz := hR.2.2
  exact kk v K' I' R' h1 p l e Rm s m args below meth c H1 locs1 ls Q E C hbud.1 hbud.2 ⟨h2, h4, by omega⟩ hl hq
theorem ny_callS (hy : ny_chk own y = true) (hi : y.2.2.2.2.2[i]? = some (pc, 3, .invokestatic idx, a, b, v, w)) (hz : ny_zs z na = true) (hlk : ny_mem (.methodLink y.1.cls idx z.1) = true)
    (hst : St = av.reverse ++ S) (hna : av.length = na) (hbud : k + mc' ≤ mc ∧ n + ms' ≤ ms) (hS4 : S.length ≤ 4) (hcall : ny_Call d mc' ms' z av K I R Ret')
    (kk : ∀ v K' I' R', Ret' v K' I' R' → ny_G (d + 1) mc ms y (pc + 3) L (v.toList ++ S) K' I' R' (k + mc') (n + ms') Ret) : ny_G (d + 1) mc ms y pc L St K I R k n Ret := by
  intro p l e Rm s m args below meth c H locs ls Q E C hk hn hR hl hq
  have hd := ny_dec hy hi
  simp only [ny_zs, ny_zb, Bool.and_eq_true, decide_eq_true_eq] at hz
  obtain ⟨⟨⟨⟨⟨⟨hz1, hz2⟩, hz3⟩, hz4⟩, hz5⟩, -⟩, hz6⟩ := hz
  obtain ⟨hx, hb, hr, hml, hown, hts, hlo, hin, hf1, hf2, hc, hs, hSS, hX, hsz⟩ := id C
  refine ny_szW hsz hR fun hsz2 => ?_
  have hcs := ny_catsum E S
  have cw : CallB Rm s args y.1.cls idx z.1 z.2.1 z.2.2.1 z.2.2.2.1 (ny_W z) (ny_rm d mc' ms') mc' ms' na ∧ (Cond.static z.1).before args s = true := by
    refine va_cwS na hts (ny_good ?_) rfl rfl rfl hz4 ⟨hf1, ?_⟩
    · intro w hw
      unfold va_wsS ny_W at hw
      simp only [List.cons_append, List.nil_append, List.mem_cons] at hw
      rcases hw with rfl | rfl | rfl | rfl | hw
      · exact ny_mem_tb hlk
      · exact ny_mem_tb hz6
      · exact ny_mem_tb hz1
      · exact ny_mem_tb hz2
      · exact hw
    · show 8 + (z.2.2.1 + 11) + 64 * (d + 1) ≤ Rm.locals
      omega
  have hpre := ny_pre_at (av := av) C hR hsz2
  subst hst
  rw [List.map_append, List.map_reverse]
  refine ny_cont (va_runS (rest := S.map (ny_v E)) ⟨hx, hb, hml, hown, hts⟩ (hcall l E) cw ⟨ny_blind E _ K I R, hpre⟩ rfl (by rw [List.length_map]; exact hna) hl.1 rfl (lv_room (by omega)) hd ⟨by omega, by omega⟩) hR.2.1 fun v K' I' R' H1 locs1 h1 h2 h3 h4 => ?_
  have eqv : (v.map (ny_v E)).toList ++ S.map (ny_v E) = (v.toList ++ S).map (ny_v E) := by cases v <;> simp
  rw [eqv]
  have hz := hR.2.2
  exact kk v K' I' R' h1 p l e Rm s m args below meth c H1 locs1 ls Q E C hbud.1 hbud.2 ⟨h2, h4, by omega⟩ hl hq
end NYCM
