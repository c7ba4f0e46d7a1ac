/-! the constructors: a walk that makes cells; calls -/
def ny_J (d mc ms : Nat) (y : ny_M) (pc : Nat) (L : ny_Lc) (S : List Value) (K : ny_K) (I : ny_I) (R : ny_R) (k n : Nat) (Ret : ny_Q) : Prop :=
  ∀ (p : Program) (l : Launch) (e : Env) (Rm : Room) (s : State) (m : MethodId) (args : Array Value) (below : List Frame) (meth : Method) (c : Code) (H : Heap) (locs : List Loc) (ls : Array Slot) (Q : State → Prop) (E : ny_E),
    ny_C E p s m args meth c y Rm d mc ms → ny_AO s → k ≤ mc → n ≤ ms → ny_Rl E K I R s H locs k → lv_has ls y.2.2.1 (L.map (ny_lv E)) →
    (∀ v K' I' R' H' locs' pc' ls', Ret v K' I' R' → ny_Rl E K' I' R' s H' locs' mc → ny_rt y pc' v → W p l e Rm s m args below meth c H' locs' mc ms Q (F0 m pc' ls' (v.toList.map (ny_v E)))) →
    W p l e Rm s m args below meth c H locs k n Q (F0 m pc ls (S.map (ny_v E)))
def ny_Pre2 (E : ny_E) (av : List Value) (K : ny_K) (I : ny_I) (R : ny_R) : Array Value → State → Prop :=
  va_Pc (av.map (ny_v E)) (fun U => ny_S E U ∧ ny_X E U U.heap ∧ ny_sz E ≤ U.heap.size ∧ ny_P E K I R U.heap ∧ U.heap.size + 5 = ny_sz E + K.length ∧ ny_AO U)
def ny_Cal (d mc ms : Nat) (z : ny_M) (av : List Value) (K : ny_K) (I : ny_I) (R : ny_R) (Ret : ny_Q) : Prop :=
  ∀ (l : Launch) (E : ny_E), Met l z.1 (ny_W z) (ny_rm d mc ms) (ny_Pre2 E av K I R) (ny_Post E mc K Ret) mc ms (ny_A E)
theorem ny_blind2 (E : ny_E) (av : List Value) (K : ny_K) (I : ny_I) (R : ny_R) : FrameBlind (ny_Pre2 E av K I R) := by
  intro a U g mk ⟨h0, h1, h2, h3, h4, h5, h6⟩
  have hW : U.WarmedH (U.calling g mk a).vm := State.WarmedH.refl U
  have h2' : ny_X E (U.calling g mk a) U.heap := ny_X_mv (locs := []) hW h3 va_S.rf h2
  exact ⟨h0, ny_S_mv hW h1, h2', h3, h4, h5, ny_AO_mv hW h6⟩
theorem ny_enter2 {d mc ms : Nat} {z : ny_M} {av : List Value} {K : ny_K} {I : ny_I} {R : ny_R} {Ret : ny_Q} (hpl : plainName z.1.cls = true) (hin : z.2.2.2.2.1 = true → z.1.name = "<init>") (hL : (lg_sl av).length ≤ z.2.2.1)
    (h : ny_J d mc ms z 0 (lv_args 0 av) [] K I R 0 0 Ret) : ny_Cal d mc ms z av K I R Ret := by
  intro l E
  refine Met.ofW (cc := z.2.1) (maxL := z.2.2.1) (ret := z.2.2.2.1) hpl rfl ?_
  intro p e s m args below meth c s₁ B hml hv
  obtain ⟨rfl, hS, hX, hsz, hP, hz, hAO⟩ := hv
  have hx := B.exec
  have hb := B.bytes
  have hr := B.returns
  have hts0 := atoms_spec (ws := ny_W z) B.pre
  have hown : s.vm.findClass z.1.cls = some m.cls := findClass_of_methodNamed B.named
  have hlocks := B.notSynchronized
  have hnm : meth.name = z.1.name := (name_of_methodNamed B.named B.method).1
  have C : ny_C E p s m (av.map (ny_v E)).toArray meth c z (headSpec (ny_W z) (ny_rm d mc ms)).room d mc ms :=
    ⟨hx, hb, hr, hml, hown, fun w hw => hts0 w (List.mem_cons_of_mem _ hw), hlocks, fun q => hnm.trans (hin q), Nat.le_refl _, Nat.le_refl _, rfl, rfl, hS, hX, hsz⟩
  rw [lg_entry_eq]
  have hl := lv_entry (av.map (ny_v E)) (n := z.2.2.1) (by rw [ny_sl_len]; exact hL)
  rw [ny_args_map] at hl
  refine h p l e _ s m _ below meth c s.heap [] _ _ E C hAO (Nat.zero_le _) (Nat.zero_le _) ⟨hP, va_S.rf, by omega⟩ hl ?_
  intro v K' I' R' H' locs' pc' ls' hRet hR' hrt
  obtain ⟨hP', hS', hz'⟩ := hR'
  have hlen : K'.length = K.length + mc := by omega
  have hpost : ∀ t : State, t.heap = H' → s.WarmedH t.vm → ny_Post E mc K Ret (av.map (ny_v E)).toArray s (.returned (v.map (ny_v E))) t := fun t ht _ => ⟨⟨v, K', I', R', rfl, hRet, by rw [ht]; exact hP', hlen⟩, hS'.F ht⟩
  unfold ny_rt at hrt
  split at hrt
  next => exact W.vret hx hb (hr.trans hrt.2) hpost hS'.2.2 hrt.1
  next x =>
    obtain ⟨hd, ty, h1, h2⟩ := hrt
    exact W.zret hx hb (hr.trans h1) h2 hpost hS'.2.2 hd
  next o =>
    obtain ⟨hd, h4, nm, h1⟩ := hrt
    have e : ny_v E (.ref o) = .ref (ny_ph E o) := ny_refs h4
    rw [show (some (Value.ref o)).toList.map (ny_v E) = [ny_v E (.ref o)] from rfl, e]
    rw [show (some (Value.ref o)).map (ny_v E) = some (ny_v E (.ref o)) from rfl, e] at hpost
    exact W.aret hx hb (hr.trans h1) (Or.inl ⟨nm, rfl⟩) (Or.inr ⟨_, rfl⟩) hpost hS'.2.2 hd
  next => exact hrt.elim
def ny_rn (K1 : ny_K) (I1 : ny_I) (R1 : ny_R) : ny_Q := fun v K' I' R' => v = none ∧ K' = K1 ∧ I' = I1 ∧ R' = R1
section NYCW
variable {p : Program} {l : Launch} {e : Env} {Rm : Room} {s : State} {m : MethodId} {args : Array Value} {below : List Frame} {meth : Method} {c : Code} {H : Heap} {locs : List Loc} {ls : Array Slot} {Q : State → Prop} {E : ny_E} {d mc ms k n : Nat} {K K1 : ny_K} {R R1 : ny_R} {I I1 : ny_I} {y z : ny_M} {own pc : Nat} {S : List Value}
theorem ny_pre2_at {av : List Value} (C : ny_C E p s m args meth c y Rm d mc ms) (hAO : ny_AO s) (hR : ny_Rl E K I R s H locs k) (hsz2 : H.size + 5 = ny_sz E + K.length) : ∀ U : State, U.heap = H → s.WarmedH U.vm → ny_Pre2 E av K I R (av.map (ny_v E)).toArray U := by
  intro U hU hW
  obtain ⟨h0, h1, h2, h3, h4, h5⟩ := ny_pre_at (av := av) C hR hsz2 U hU hW
  exact ⟨h0, h1, h2, h3, h4, h5, ny_AO_mv hW hAO⟩
theorem ny_cont2 {mc' ms' : Nat} {st0 rest : List Value} {a : Array Value} (hr : va_Run p l e Rm s m args below meth c H locs k n mc' ms' (F0 m pc ls st0) rest (ny_Post E mc' K (ny_rn K1 I1 R1) a) (ny_A E)) (hR : ny_Rl E K I R s H locs k)
    (kk : ∀ (H1 : Heap) (locs1 : List Loc), ny_Rl E K1 I1 R1 s H1 locs1 (k + mc') → W p l e Rm s m args below meth c H1 locs1 (k + mc') (n + ms') Q (F0 m (pc + 3) ls rest)) : W p l e Rm s m args below meth c H locs k n Q (F0 m pc ls st0) := by
  refine ny_cont hr hR.2.1 fun v K' I' R' H1 locs1 h1 h2 h3 h4 => ?_
  obtain ⟨rfl, rfl, rfl, rfl⟩ := h1
  have hz := hR.2.2
  exact kk H1 locs1 ⟨h2, h4, by omega⟩
/-- a constructor -/
theorem ny_w_callI {o idx mc' ms' : Nat} (C : ny_C E p s m args meth c y Rm (d + 1) mc ms) (hAO : ny_AO s) (hz : ny_zi z 0 = true) (hlk : ny_mem (.methodLink y.1.cls idx z.1) = true ∨ ∃ host, (y.1.cls, idx, z.1, host) ∈ ny_nest) (ho : 5 ≤ o)
    (hd : decode y.2.1 pc = .ok (.invokespecial idx, 3)) (hl : ls.size = y.2.2.1) (hR : ny_Rl E K I R s H locs k) (hbud : k + mc' ≤ mc ∧ n + ms' ≤ ms) (hS4 : S.length ≤ 4) (hcall : ny_Cal d mc' ms' z [.ref o] K I R (ny_rn K1 I1 R1))
    (kk : ∀ (H' : Heap) (locs' : List Loc), ny_Rl E K1 I1 R1 s H' locs' (k + mc') → W p l e Rm s m args below meth c H' locs' (k + mc') (n + ms') Q (F0 m (pc + 3) ls (S.map (ny_v E)))) :
    W p l e Rm s m args below meth c H locs k n Q (F0 m pc ls ((Value.ref o :: S).map (ny_v E))) := by
  simp only [ny_zi, ny_zb, Bool.and_eq_true, decide_eq_true_eq] at hz
  obtain ⟨⟨⟨⟨⟨⟨⟨⟨hz1, hz2⟩, hz3⟩, hz4⟩, hz5⟩, -⟩, hz6⟩, hz7⟩, hz8⟩ := hz
  obtain ⟨hx, hb, hr, hml, hown, hts, hlo, hin, hf1, hf2, hc, hs, hSS, hX, hsz⟩ := id C
  refine ny_szW hsz hR fun hsz2 => ?_
  have hcs := ny_catsum E S
  have hpre := ny_pre2_at (av := [.ref o]) C hAO hR hsz2
  rw [List.map_cons, List.map_nil, ny_ref ho] at hpre
  have hG : GoodIn ny_tb (ny_W z) := ny_good fun w hw => by
    unfold ny_W at hw
    rcases List.mem_cons.mp hw with rfl | hw
    · exact ny_mem_tb hz2
    · exact hw
  have hW : ny_W z = .code z.1 z.2.1 z.2.2.1 none :: ny_tb := by
    unfold ny_W
    rw [hz8]
  have hroom : (ny_rm d mc' ms').frames + 1 ≤ Rm.frames ∧ 8 + (z.2.2.1 + 11) + (ny_rm d mc' ms').locals ≤ Rm.locals := ⟨hf1, by show 8 + (z.2.2.1 + 11) + 64 * (d + 1) ≤ Rm.locals; omega⟩
  rw [List.map_cons, ny_ref ho]
  rcases hlk with hlk | ⟨host, hlk⟩
  · have cw := cwI (s := s) (args := args) (R := Rm) (own := y.1.cls) (index := idx) (y := z.1) (bytes := z.2.1) (maxL := z.2.2.1) (rm := ny_rm d mc' ms') 0 hts hG hW rfl rfl (hts _ (ny_mem_tb hz1)) (hts _ (ny_mem_tb hlk)) (hts _ (ny_mem_tb hz6)) hz7 hz4 hroom
    exact ny_cont2 (va_runI (As := []) (rest := S.map (ny_v E)) ⟨hx, hb, hml, hown, hts⟩ (hcall l E) cw ⟨ny_blind2 E _ K I R, hpre⟩ rfl rfl hl rfl (lv_room (by omega)) hd ⟨by omega, by omega⟩) hR kk
  · have cw := va_cnB (s := s) (args := args) (R := Rm) (own := y.1.cls) (index := idx) (y := z.1) (bytes := z.2.1) (maxL := z.2.2.1) (ret := none) (rm := ny_rm d mc' ms') 0 hts hG hW rfl rfl (hSS.2 _ hlk) (hts _ (ny_mem_tb hz1)) hz4 hroom
    exact ny_cont2 (va_runIN (As := []) (rest := S.map (ny_v E)) ⟨hx, hb, hml, hown, hts⟩ (hcall l E) ⟨cw, hz7, hts _ (ny_mem_tb hz6)⟩ ⟨ny_blind2 E _ K I R, hpre⟩ rfl rfl hl rfl (lv_room (by omega)) hd ⟨by omega, by omega⟩) hR kk
/-- a static method -/
theorem ny_w_callS {idx mc' ms' na : Nat} {St av : List Value} (C : ny_C E p s m args meth c y Rm (d + 1) mc ms) (hAO : ny_AO s) (hz : ny_zs z na = true) (hlk : ny_mem (.methodLink y.1.cls idx z.1) = true) (hst : St = av.reverse ++ S) (hna : av.length = na)
    (hd : decode y.2.1 pc = .ok (.invokestatic idx, 3)) (hl : ls.size = y.2.2.1) (hR : ny_Rl E K I R s H locs k) (hbud : k + mc' ≤ mc ∧ n + ms' ≤ ms) (hS4 : S.length ≤ 4) (hcall : ny_Cal d mc' ms' z av K I R (ny_rn K1 I1 R1))
    (kk : ∀ (H' : Heap) (locs' : List Loc), ny_Rl E K1 I1 R1 s H' locs' (k + mc') → W p l e Rm s m args below meth c H' locs' (k + mc') (n + ms') Q (F0 m (pc + 3) ls (S.map (ny_v E)))) :
    W p l e Rm s m args below meth c H locs k n Q (F0 m pc ls (St.map (ny_v E))) := by
  simp only [ny_zs, ny_zb, Bool.and_eq_true, decide_eq_true_eq] at hz
  obtain ⟨⟨⟨⟨⟨⟨hz1, hz2⟩, hz3⟩, hz4⟩, hz5⟩, -⟩, hz6⟩ := hz
  obtain ⟨hx, hb, hr, hml, hown, hts, hlo, hin, hf1, hf2, hc, hs, hSS, hX, hsz⟩ := id C
  refine ny_szW hsz hR fun hsz2 => ?_
  have hcs := ny_catsum E S
  have cw : CallB Rm s args y.1.cls idx z.1 z.2.1 z.2.2.1 z.2.2.2.1 (ny_W z) (ny_rm d mc' ms') mc' ms' na ∧ (Cond.static z.1).before args s = true := by
    refine va_cwS na hts (ny_good ?_) rfl rfl rfl hz4 ⟨hf1, ?_⟩
    · intro w hw
      unfold va_wsS ny_W at hw
      simp only [List.cons_append, List.nil_append, List.mem_cons] at hw
      rcases hw with rfl | rfl | rfl | rfl | hw
      · exact ny_mem_tb hlk
      · exact ny_mem_tb hz6
      · exact ny_mem_tb hz1
      · exact ny_mem_tb hz2
      · exact hw
    · show 8 + (z.2.2.1 + 11) + 64 * (d + 1) ≤ Rm.locals
      omega
  have hpre := ny_pre2_at (av := av) C hAO hR hsz2
  subst hst
  rw [List.map_append, List.map_reverse]
  exact ny_cont2 (va_runS (rest := S.map (ny_v E)) ⟨hx, hb, hml, hown, hts⟩ (hcall l E) cw ⟨ny_blind2 E _ K I R, hpre⟩ rfl (by rw [List.length_map]; exact hna) hl rfl (lv_room (by omega)) hd ⟨by omega, by omega⟩) hR kk
end NYCW
