/-! the constructors: a program that runs them -/
def ny_Kt (Ln m : Nat) : ny_K := (ny_KK Ln).take m
def ny_kt (m o : Nat) : Option (Nat × Nat) := match Nat.ble 5 o && Nat.blt o m with
  | true => (ny_KK 0)[o]?
  | false => none
def ny_Iw (I0 : ny_I) : List (Nat × Nat × Int32) → ny_I
  | [] => I0
  | q :: t => ny_up (ny_Iw I0 t) q.1 q.2.1 q.2.2
def ny_R0 : ny_R := fun c j => if c = 2 ∧ j = 1 then some 3 else none
def ny_Rw : List (Nat × Nat × Nat) → ny_R
  | [] => ny_R0
  | q :: t => ny_upR (ny_Rw t) q.1 q.2.1 q.2.2
abbrev ny_ww : Type := List (Nat × Nat × Int32)
abbrev ny_wr : Type := List (Nat × Nat × Nat)
/-- place, locals, stack; how many cells, slots; the writes -/
abbrev ny_Y : Type := Nat × ny_Lc × List Value × Nat × Nat × ny_ww × ny_wr
def ny_tg (pc : Nat) (off : Int) : Option Nat := match (pc : Int) + off with
  | .ofNat t => some t
  | .negSucc _ => none
/-- the instructions that leave the memory alone -/
def ny_eo (q : ny_Op) (m : Nat) (rs : ny_wr) (L : ny_Lc) (S : List Value) : Option (ny_Lc × List Value) :=
  match q with
  | (_, _, ins, a, b, v, _) => match ins with
    | .aload_n i => match ny_lk L i with
      | some (.ref x) => some (L, .ref x :: S)
      | _ => none
    | .iload_n i => match ny_lk L i with
      | some (.int x) => some (L, .int x :: S)
      | _ => none
    | .istore_n i => match S with
      | .int x :: t => some (ny_st L i (.int x), t)
      | _ => none
    | .iinc i _ => match ny_lk L i with
      | some (.int x) => some (ny_st L i (.int (x + v)), S)
      | _ => none
    | .iconst _ => some (L, .int v :: S)
    | .bipush _ => some (L, .int v :: S)
    | .sipush _ => some (L, .int v :: S)
    | .dup => match S with
      | .int x :: t => some (L, .int x :: .int x :: t)
      | .ref o :: t => some (L, .ref o :: .ref o :: t)
      | _ => none
    | .iadd => match S with
      | .int y :: .int x :: t => some (L, .int (x + y) :: t)
      | _ => none
    | .arraylength => match S with
      | .ref o :: t => match ny_kt m o with
        | some q => match Nat.beq q.1 1 with
          | true => some (L, .int (nI q.2) :: t)
          | false => none
        | none => none
      | _ => none
    | .getfield _ => match S with
      | .ref o :: t => match decide (b % 3 = 1) && decide (ny_kt m o = some (0, a)) && ny_rs (ny_Rw rs o (b / 3)) with
        | true => some (L, .ref ((ny_Rw rs o (b / 3)).getD 0) :: t)
        | false => none
      | _ => none
    | _ => none
def ny_fr (m : Nat) (ws : ny_ww) (rs : ny_wr) : Bool := ws.all (fun q => Nat.blt q.1 m) && rs.all (fun q => Nat.blt q.1 m)
/-- one instruction, no call -/
def ny_es1 (own : Nat) (ctor : Bool) (q : ny_Op) (L : ny_Lc) (S : List Value) (m n : Nat) (ws : ny_ww) (rs : ny_wr) : Option ny_Y :=
  match q with
  | (pc, len, ins, a, b, v, w) => match ins with
    | .goto off => match ny_tg pc off with
      | some t => some (t, L, S, m, n, ws, rs)
      | none => none
    | .if_icmp c off => match S with
      | .int z :: .int x :: t => match ny_tg pc off with
        | some tg => match c with
          | .ge => match decide (z ≤ x) with
            | true => some (tg, L, t, m, n, ws, rs)
            | false => some (pc + 3, L, t, m, n, ws, rs)
          | .gt => match decide (z < x) with
            | true => some (tg, L, t, m, n, ws, rs)
            | false => some (pc + 3, L, t, m, n, ws, rs)
          | _ => none
        | none => none
      | _ => none
    | .new _ => match decide ((ny_KK 0)[m]? = some (0, a)) && ny_fr m ws rs with
      | true => some (pc + 3, L, .ref m :: S, m + 1, n + (ny_Ks.getD a []).length, ws, rs)
      | false => none
    | .newarray ty => match S with
      | .int x :: t => match decide ((ty = .int ∧ (ny_KK 0)[m]? = some (1, x.toNatClampNeg)) ∨ (ty = .byte ∧ (ny_KK 0)[m]? = some (2, x.toNatClampNeg))) && decide (x.toNatClampNeg < 2 ^ 20) && decide (x = nI x.toNatClampNeg) && ny_fr m ws rs with
        | true => some (pc + 2, L, .ref m :: t, m + 1, n + x.toNatClampNeg, ws, rs)
        | false => none
      | _ => none
    | .anewarray _ => match S with
      | .int x :: t => match decide ((ny_KK 0)[m]? = some (if a = 2 then 3 else if a = 6 then 4 else 5, x.toNatClampNeg)) && decide (x.toNatClampNeg < 2 ^ 20) && decide (x = nI x.toNatClampNeg) && ny_fr m ws rs with
        | true => some (pc + 3, L, .ref m :: t, m + 1, n + x.toNatClampNeg, ws, rs)
        | false => none
      | _ => none
    | .multianewarray i k => match S with
      | .int y :: .int x :: t => match decide (k = 2) && decide (own = 9) && decide (i = 37) && decide (y = 3) && decide (x = 4) && decide (((ny_KK 0).drop m).take 5 = [(6, 4), (1, 3), (1, 3), (1, 3), (1, 3)]) && ny_fr m ws rs with
        | true => some (pc + 4, L, .ref m :: t, m + 5, n + 16, ws, (m, 3, m + 4) :: (m, 2, m + 3) :: (m, 1, m + 2) :: (m, 0, m + 1) :: rs)
        | false => none
      | _ => none
    | .putfield _ => match S with
      | .int x :: .ref o :: t => match decide (ny_kt m o = some (0, a)) && (decide (b % 3 = 0) || (decide (b % 3 = 2) && (decide (x = 0) || decide (x = 1)))) with
        | true => some (pc + 3, L, t, m, n, (o, b / 3, x) :: ws, rs)
        | false => none
      | .ref x :: .ref o :: t => match decide (ny_kt m o = some (0, a)) && decide (b % 3 = 1) && decide (a = own) && ctor && decide (x ≠ 4) with
        | true => some (pc + 3, L, t, m, n, ws, (o, b / 3, x) :: rs)
        | false => none
      | _ => none
    | .iastore => match S with
      | .int x :: .int j :: .ref o :: t => match ny_kt m o with
        | some q => match Nat.beq q.1 1 && ny_in j q.2 with
          | true => some (pc + 1, L, t, m, n, (o, j.toNatClampNeg, x) :: ws, rs)
          | false => none
        | none => none
      | _ => none
    | .aastore => match S with
      | .ref x :: .int j :: .ref o :: t => match ny_kt m o with
        | some q => match ny_kt m x with
          | some r => match decide (r.1 = 0) && decide ((q.1 = 3 ∧ r.2 = 2) ∨ (q.1 = 4 ∧ r.2 = 6) ∨ (q.1 = 5 ∧ r.2 = 7)) && ny_in j q.2 with
            | true => some (pc + 1, L, t, m, n, ws, (o, j.toNatClampNeg, x) :: rs)
            | false => none
          | none => none
        | none => none
      | _ => none
    | _ => match ny_eo (pc, len, ins, a, b, v, w) m rs L S with
      | some (L', S') => some (pc + len, L', S', m, n, ws, rs)
      | none => none
def ny_ini : List ny_M := [m_Ac_init, m_Ba_init, m_Mo_init, m_Pl_init, m_Re_init, m_Ru_init, m_Sh_init, m_Sf_init, m_Ta_init, m_No_init, m_Md_init]
def ny_oi : List Nat := [1, 3, 3, 3, 3, 7, 3, 3, 3, 1, 1]
def ny_pln : List (Nat × Nat × Nat) := [(9, 9, 1), (9, 32, 3)]
def ny_nst : List (Nat × Nat × Nat) := [(1, 11, 2), (1, 52, 5), (1, 59, 4), (9, 25, 8), (8, 40, 5), (3, 46, 2), (9, 60, 0), (9, 65, 6), (9, 66, 7)]
abbrev ny_vt : Type := Nat → ny_M → Nat → ny_Lc → List Value → Nat → Nat → ny_ww → ny_wr → Option (Nat × Nat × ny_ww × ny_wr)
def ny_evb (ev : ny_vt) : ny_vt := fun own y pc L S m n ws rs => match y.2.2.2.2.2.find? (fun q => Nat.beq q.1 pc) with
    | none => none
    | some q => match q.2.2.1 with
      | .return_ => match S with
        | [] => some (m, n, ws, rs)
        | _ => none
      | .invokespecial i => match S with
        | .ref o :: t => match Nat.ble t.length 4 && Nat.ble 5 o && Nat.blt own 11 with
          | false => none
          | true => match Nat.beq (ny_oi.getD own 0) i with
            | true => ev own y (pc + 3) L t m n ws rs
            | false => match ny_kt m o with
              | none => none
              | some r => match decide (r.1 = 0) && (ny_pln.contains (own, i, r.2) || ny_nst.contains (own, i, r.2)) with
                | false => none
                | true => match ny_ini[r.2]? with
                  | none => none
                  | some z => match ev r.2 z 0 [(0, .ref o)] [] m n ws rs with
                    | none => none
                    | some u => ev own y (pc + 3) L t u.1 u.2.1 u.2.2.1 u.2.2.2
        | _ => none
      | .invokestatic i => match S with
        | .int x :: .ref o :: t => match Nat.ble t.length 4 && Nat.beq own 1 && Nat.beq i 67 with
          | false => none
          | true => match ev 15 m_Ja_fill 0 [(0, .ref o), (1, .int x)] [] m n ws rs with
            | none => none
            | some u => ev own y (pc + 3) L t u.1 u.2.1 u.2.2.1 u.2.2.2
        | _ => none
      | _ => match ny_es1 own y.2.2.2.2.1 q L S m n ws rs with
        | none => none
        | some u => ev own y u.1 u.2.1 u.2.2.1 u.2.2.2.1 u.2.2.2.2.1 u.2.2.2.2.2.1 u.2.2.2.2.2.2
def ny_ev : Nat → ny_vt
  | 0 => fun _ _ _ _ _ _ _ _ _ => none
  | f + 1 => ny_evb (ny_ev f)
/-! it says what the machine does -/
theorem ny_kt_ok {Ln m o : Nat} {kd : Nat × Nat} (h : ny_kt m o = some kd) : 5 ≤ o ∧ o < m ∧ (ny_Kt Ln m)[o]? = some kd := by
  unfold ny_kt at h
  split at h
  next hb =>
    rw [Bool.and_eq_true] at hb
    have h1 := Nat.le_of_ble_eq_true hb.1
    have h2 : o < m := Nat.le_of_ble_eq_true hb.2
    refine ⟨h1, h2, ?_⟩
    unfold ny_Kt
    rw [List.getElem?_take_of_lt h2, ny_KK_c Ln (by omega)]
    exact h
  next => cases h
theorem ny_Kt_len {Ln m : Nat} (h : m ≤ 120) : (ny_Kt Ln m).length = m := by
  unfold ny_Kt
  rw [List.length_take, show (ny_KK Ln).length = 120 from rfl]
  omega
theorem ny_Kt_add {Ln m j : Nat} {l : ny_K} (h5 : 5 ≤ m) (h : ((ny_KK 0).drop m).take j = l) : ny_Kt Ln m ++ l = ny_Kt Ln (m + j) := by
  have e : (ny_KK Ln).drop m = (ny_KK 0).drop m := by
    obtain ⟨k, rfl⟩ := Nat.exists_eq_succ_of_ne_zero (show m ≠ 0 by omega)
    rfl
  unfold ny_Kt
  rw [List.take_add, e, h]
theorem ny_Kt_suc {Ln m : Nat} {kd : Nat × Nat} (h5 : 5 ≤ m) (h : (ny_KK 0)[m]? = some kd) : ny_Kt Ln m ++ [kd] = ny_Kt Ln (m + 1) ∧ m + 1 ≤ 120 := by
  obtain ⟨hl, hv⟩ := List.getElem?_eq_some_iff.mp h
  refine ⟨ny_Kt_add h5 ?_, (show (ny_KK 0).length = 120 from rfl) ▸ hl⟩
  have he : (ny_KK 0).drop m = kd :: (ny_KK 0).drop (m + 1) := by
    rw [List.drop_eq_getElem_cons hl, hv]
  rw [he]
  rfl
theorem ny_tg_ok {pc t : Nat} {off : Int} (h : ny_tg pc off = some t) : (pc : Int) + off = (t : Int) := by
  unfold ny_tg at h
  split at h
  next u hu => cases h; exact hu
  next => cases h
theorem ny_fr_I {I0 : ny_I} (h0 : ∀ c, 5 ≤ c → I0 c = fun _ => 0) {c : Nat} (h5 : 5 ≤ c) : ∀ {ws : ny_ww}, (∀ q ∈ ws, q.1 < c) → ny_Iw I0 ws c = fun _ => 0
  | [], _ => h0 c h5
  | q :: t, h => by
    show ny_up (ny_Iw I0 t) q.1 q.2.1 q.2.2 c = _
    rw [ny_upn _ _ _ _ c (by have := h q List.mem_cons_self; omega)]
    exact ny_fr_I h0 h5 fun x hx => h x (List.mem_cons_of_mem _ hx)
theorem ny_fr_R {c : Nat} (h5 : 5 ≤ c) : ∀ {rs : ny_wr}, (∀ q ∈ rs, q.1 < c) → ny_Rw rs c = fun _ => none
  | [], _ => by
    funext j
    show (if c = 2 ∧ j = 1 then some 3 else none) = none
    exact if_neg (by omega)
  | q :: t, h => by
    show ny_upR (ny_Rw t) q.1 q.2.1 q.2.2 c = _
    rw [ny_upR_n _ _ _ _ c (by have := h q List.mem_cons_self; omega)]
    exact ny_fr_R h5 fun x hx => h x (List.mem_cons_of_mem _ hx)
theorem ny_fr_ok {m : Nat} {ws : ny_ww} {rs : ny_wr} (h : ny_fr m ws rs = true) : (∀ q ∈ ws, q.1 < m) ∧ ∀ q ∈ rs, q.1 < m := by
  unfold ny_fr at h
  rw [Bool.and_eq_true] at h
  exact ⟨fun q hq => Nat.le_of_ble_eq_true (List.all_eq_true.mp h.1 q hq), fun q hq => Nat.le_of_ble_eq_true (List.all_eq_true.mp h.2 q hq)⟩
theorem ny_eo_ok {Ln m : Nat} {q : ny_Op} {rs : ny_wr} {L L' : ny_Lc} {S S' : List Value} {I : ny_I} (h : ny_eo q m rs L S = some (L', S')) : ∃ g, ny_stp q (ny_Kt Ln m) (ny_Rw rs) L S I = some (g, L', S', I) ∧ ∀ b, g = some b → b = true := by
  obtain ⟨pc, len, ins, a, b, v, w⟩ := q
  cases ins
  case aload_n i =>
    simp only [ny_eo] at h
    split at h
    next x hx =>
      cases h
      exact ⟨none, by simp only [ny_stp, ny_ldA, hx], fun b hb => by cases hb⟩
    next => cases h
  case iload_n i =>
    simp only [ny_eo] at h
    split at h
    next x hx =>
      cases h
      exact ⟨none, by simp only [ny_stp, ny_ldI, hx], fun b hb => by cases hb⟩
    next => cases h
  case istore_n i =>
    simp only [ny_eo] at h
    split at h
    next x t =>
      cases h
      exact ⟨none, rfl, fun b hb => by cases hb⟩
    next => cases h
  case iinc i j =>
    simp only [ny_eo] at h
    split at h
    next x hx =>
      cases h
      exact ⟨none, by simp only [ny_stp, hx], fun b hb => by cases hb⟩
    next => cases h
  case iconst i => cases h; exact ⟨none, rfl, fun b hb => by cases hb⟩
  case bipush i => cases h; exact ⟨none, rfl, fun b hb => by cases hb⟩
  case sipush i => cases h; exact ⟨none, rfl, fun b hb => by cases hb⟩
  case dup =>
    simp only [ny_eo] at h
    split at h
    next x t => cases h; exact ⟨none, rfl, fun b hb => by cases hb⟩
    next x t => cases h; exact ⟨none, rfl, fun b hb => by cases hb⟩
    next => cases h
  case iadd =>
    simp only [ny_eo] at h
    split at h
    next x t => cases h; exact ⟨none, rfl, fun b hb => by cases hb⟩
    next => cases h
  case arraylength =>
    simp only [ny_eo] at h
    split at h
    next o t =>
      split at h
      next r hr =>
        split at h
        next hb =>
          cases h
          obtain ⟨-, -, hK⟩ := ny_kt_ok (Ln := Ln) hr
          have hl : ny_ln (ny_Kt Ln m) o = r.2 := by
            unfold ny_ln
            rw [List.getD_eq_getElem?_getD, hK]
            rfl
          have ha : ny_la (ny_Kt Ln m) o = true := by
            unfold ny_la
            rw [hK]
            show (decide (r.1 = 1) || decide (r.1 = 2)) = true
            rw [Nat.eq_of_beq_eq_true hb]
            rfl
          refine ⟨some (ny_la (ny_Kt Ln m) o), ?_, fun b hb => by cases hb; exact ha⟩
          show some (some (ny_la (ny_Kt Ln m) o), L, Value.int (nI (ny_ln (ny_Kt Ln m) o)) :: t, I) = _
          rw [hl]
        next => cases h
      next => cases h
    next => cases h
  case getfield i =>
    simp only [ny_eo] at h
    split at h
    next o t =>
      split at h
      next hb =>
        cases h
        simp only [Bool.and_eq_true, decide_eq_true_eq] at hb
        obtain ⟨-, -, hK⟩ := ny_kt_ok (Ln := Ln) hb.1.2
        refine ⟨some (ny_kd (ny_Kt Ln m) o (0, a) && ny_rs (ny_Rw rs o (b / 3))), ?_, fun b hb' => ?_⟩
        · simp only [ny_stp, ny_gf, hb.1.1]
        · cases hb'
          rw [hb.2, Bool.and_true]
          exact decide_eq_true hK
      next => cases h
    next => cases h
  all_goals cases h
