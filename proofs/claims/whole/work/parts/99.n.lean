/-! the constructors: one instruction of the program's -/
def ny_js (Ln : Nat) (I0 : ny_I) (d mc ms : Nat) (y : ny_M) (Y : ny_Y) (k nn : Nat) (Ret : ny_Q) : Prop :=
  ny_J d mc ms y Y.1 Y.2.1 Y.2.2.1 (ny_Kt Ln Y.2.2.2.1) (ny_Iw I0 Y.2.2.2.2.2.1) (ny_Rw Y.2.2.2.2.2.2) k nn Ret
/-- from Y on is enough for what comes before -/
def ny_ok1 (Ln : Nat) (I0 : ny_I) (y : ny_M) (pc : Nat) (L : ny_Lc) (S : List Value) (m n : Nat) (ws : ny_ww) (rs : ny_wr) (Y : ny_Y) : Prop :=
  (m ≤ Y.2.2.2.1 ∧ n ≤ Y.2.2.2.2.1 ∧ Y.2.2.2.1 ≤ 120) ∧ ∀ (d mc ms k nn k' nn' : Nat) (Ret : ny_Q), k' + m = k + Y.2.2.2.1 → nn' + n = nn + Y.2.2.2.2.1 → k' ≤ mc → nn' ≤ ms → ny_js Ln I0 d mc ms y Y k' nn' Ret → ny_J d mc ms y pc L S (ny_Kt Ln m) (ny_Iw I0 ws) (ny_Rw rs) k nn Ret
theorem ny_len_of {own mL pc len : Nat} {cls : String} {ins : Instr} {a b : Nat} {v : Int32} {w : Int64} (h : ny_okp own cls mL (pc, len, ins, a, b, v, w) = true) {x : Nat} (hx : ny_len ins = x) (h0 : x ≠ 0) : len = x := by
  unfold ny_okp at h
  rw [Bool.and_eq_true] at h
  rcases of_decide_eq_true h.1 with h | h
  · exact h.trans hx
  · exact absurd (hx.symm.trans h) h0
section NYE1
variable {Ln : Nat} {I0 : ny_I} {own : Nat} {y : ny_M} {L : ny_Lc} {S : List Value} {m n : Nat} {ws : ny_ww} {rs : ny_wr} {Y : ny_Y}
theorem ny_es1_eo {q : ny_Op} (hy : ny_chk own y = true) (hq : q ∈ y.2.2.2.2.2) (hm : m ≤ 120)
    (h : (match ny_eo q m rs L S with
      | some (L', S') => some (q.1 + q.2.1, L', S', m, n, ws, rs)
      | none => none) = some Y) : ny_ok1 Ln I0 y q.1 L S m n ws rs Y := by
  split at h
  next L' S' he =>
    cases h
    obtain ⟨g, h1, h2⟩ := ny_eo_ok (Ln := Ln) (I := ny_Iw I0 ws) he
    refine ⟨⟨Nat.le_refl _, Nat.le_refl _, hm⟩, fun d mc ms k nn k' nn' Ret e1 e2 _ _ hJ => ?_⟩
    obtain rfl : k' = k := Nat.add_right_cancel e1
    obtain rfl : nn' = nn := Nat.add_right_cancel e2
    intro p l e Rm s mm args below meth c H locs ls Q E C hAO hk hn hR hl hend
    exact ny_stp_ok hy C hq h1 h2 hk hn hR hl fun H' locs' ls' hR' hl' => hJ p l e Rm s mm args below meth c H' locs' ls' Q E C hAO hk hn hR' hl' hend
  next => cases h
/-- an instruction that writes a whole number -/
theorem ny_es1_wr {q : ny_Op} {S' : List Value} {g : Option Bool} {o j : Nat} {x : Int32} (hy : ny_chk own y = true) (hq : q ∈ y.2.2.2.2.2) (hm : m ≤ 120)
    (h1 : ny_stp q (ny_Kt Ln m) (ny_Rw rs) L S (ny_Iw I0 ws) = some (g, L, S', ny_up (ny_Iw I0 ws) o j x)) (h2 : ∀ b, g = some b → b = true) : ny_ok1 Ln I0 y q.1 L S m n ws rs (q.1 + q.2.1, L, S', m, n, (o, j, x) :: ws, rs) := by
  refine ⟨⟨Nat.le_refl _, Nat.le_refl _, hm⟩, fun d mc ms k nn k' nn' Ret e1 e2 _ _ hJ => ?_⟩
  obtain rfl : k' = k := Nat.add_right_cancel e1
  obtain rfl : nn' = nn := Nat.add_right_cancel e2
  intro p l e Rm s mm args below meth c H locs ls Q E C hAO hk hn hR hl hend
  exact ny_stp_ok hy C hq h1 h2 hk hn hR hl fun H' locs' ls' hR' hl' => hJ p l e Rm s mm args below meth c H' locs' ls' Q E C hAO hk hn hR' hl' hend
theorem ny_es1_ok (h0 : ∀ c, 5 ≤ c → I0 c = fun _ => 0) {q : ny_Op} (hy : ny_chk own y = true) (hq : q ∈ y.2.2.2.2.2) (h5 : 5 ≤ m) (hm : m ≤ 120) (h : ny_es1 own y.2.2.2.2.1 q L S m n ws rs = some Y) : ny_ok1 Ln I0 y q.1 L S m n ws rs Y := by
  obtain ⟨pc, len, ins, a, b, v, w⟩ := q
  obtain ⟨⟨hcn, hown18⟩, hd, hok⟩ := ny_dcm hy hq
  have hlen := ny_Kt_len (Ln := Ln) hm
  cases ins
  case goto off =>
    obtain rfl := ny_len_of (x := 3) hok rfl (by decide)
    simp only [ny_es1] at h
    split at h
    next t ht =>
      cases h
      refine ⟨⟨Nat.le_refl _, Nat.le_refl _, hm⟩, fun d mc ms k nn k' nn' Ret e1 e2 _ _ hJ => ?_⟩
      obtain rfl : k' = k := Nat.add_right_cancel e1
      obtain rfl : nn' = nn := Nat.add_right_cancel e2
      intro p l e Rm s mm args below meth c H locs ls Q E C hAO hk hn hR hl hend
      exact lv_goto C.1 C.2.1 hd (ny_tg_ok ht) (hJ p l e Rm s mm args below meth c H locs ls Q E C hAO hk hn hR hl hend)
    next => cases h
  case if_icmp cnd off =>
    obtain rfl := ny_len_of (x := 3) hok rfl (by decide)
    simp only [ny_es1] at h
    split at h
    next z x t =>
      split at h
      next tg ht =>
        split at h
        next =>
          have key : ∀ tp, (z ≤ x → tp = tg) → (¬ z ≤ x → tp = pc + 3) → Y = (tp, L, t, m, n, ws, rs) → ny_ok1 Ln I0 y pc L (Value.int z :: .int x :: t) m n ws rs Y := by
            intro tp g1 g2 hY
            subst hY
            refine ⟨⟨Nat.le_refl _, Nat.le_refl _, hm⟩, fun d mc ms k nn k' nn' Ret e1 e2 _ _ hJ => ?_⟩
            obtain rfl : k' = k := Nat.add_right_cancel e1
            obtain rfl : nn' = nn := Nat.add_right_cancel e2
            intro p l e Rm s mm args below meth c H locs ls Q E C hAO hk hn hR hl hend
            refine lv_icmp_ge C.1 C.2.1 hd (ny_tg_ok ht) (fun h => ?_) (fun h => ?_)
            · have := g1 h
              subst this
              exact hJ p l e Rm s mm args below meth c H locs ls Q E C hAO hk hn hR hl hend
            · have := g2 h
              subst this
              exact hJ p l e Rm s mm args below meth c H locs ls Q E C hAO hk hn hR hl hend
          split at h
          next hb => exact key tg (fun _ => rfl) (fun q => absurd (of_decide_eq_true hb) q) (by cases h; rfl)
          next hb => exact key (pc + 3) (fun q => absurd q (of_decide_eq_false hb)) (fun _ => rfl) (by cases h; rfl)
        next =>
          have key : ∀ tp, (z < x → tp = tg) → (¬ z < x → tp = pc + 3) → Y = (tp, L, t, m, n, ws, rs) → ny_ok1 Ln I0 y pc L (Value.int z :: .int x :: t) m n ws rs Y := by
            intro tp g1 g2 hY
            subst hY
            refine ⟨⟨Nat.le_refl _, Nat.le_refl _, hm⟩, fun d mc ms k nn k' nn' Ret e1 e2 _ _ hJ => ?_⟩
            obtain rfl : k' = k := Nat.add_right_cancel e1
            obtain rfl : nn' = nn := Nat.add_right_cancel e2
            intro p l e Rm s mm args below meth c H locs ls Q E C hAO hk hn hR hl hend
            refine lv_icmp_gt C.1 C.2.1 hd (ny_tg_ok ht) (fun h => ?_) (fun h => ?_)
            · have := g1 h
              subst this
              exact hJ p l e Rm s mm args below meth c H locs ls Q E C hAO hk hn hR hl hend
            · have := g2 h
              subst this
              exact hJ p l e Rm s mm args below meth c H locs ls Q E C hAO hk hn hR hl hend
          split at h
          next hb => exact key tg (fun _ => rfl) (fun q => absurd (of_decide_eq_true hb) q) (by cases h; rfl)
          next hb => exact key (pc + 3) (fun q => absurd q (of_decide_eq_false hb)) (fun _ => rfl) (by cases h; rfl)
        next => cases h
      next => cases h
    next => cases h
  case new i =>
    obtain rfl := ny_len_of (x := 3) hok rfl (by decide)
    simp only [ny_es1] at h
    split at h
    next hb =>
      cases h
      rw [Bool.and_eq_true, decide_eq_true_eq] at hb
      obtain ⟨hkd, hf⟩ := hb
      obtain ⟨hf1, hf2⟩ := ny_fr_ok hf
      obtain ⟨hs1, hs2⟩ := ny_Kt_suc (Ln := Ln) h5 hkd
      unfold ny_okp at hok
      simp only [Bool.and_eq_true, decide_eq_true_eq] at hok
      refine ⟨⟨Nat.le_succ _, Nat.le_add_right _ _, hs2⟩, fun d mc ms k nn k' nn' Ret e1 e2 hk' hn' hJ => ?_⟩
      obtain rfl : k' = k + 1 := by
        have e1 : k' + m = k + (m + 1) := e1
        omega
      obtain rfl : nn' = nn + (ny_Ks.getD a []).length := by
        have e2 : nn' + n = nn + (n + (ny_Ks.getD a []).length) := e2
        omega
      intro p l e Rm s mm args below meth c H locs ls Q E C hAO hk hn hR hl hend
      refine ny_w_new C hok.2.2 (by rw [hok.2.1.1.1, hok.2.1.1.2, hok.2.1.2]; rfl) hd hR (by rw [hlen]; exact h5) (by rw [hlen]; exact ny_fr_I h0 h5 hf1) (by rw [hlen]; exact ny_fr_R h5 hf2) hk' hn' fun H' hR' => ?_
      rw [hs1] at hR'
      rw [hlen]
      exact hJ p l e Rm s mm args below meth c H' locs ls Q E C hAO hk' hn' hR' hl hend
    next => cases h
  case newarray ty =>
    obtain rfl := ny_len_of (x := 2) hok rfl (by decide)
    simp only [ny_es1] at h
    split at h
    next x t =>
      split at h
      next hb =>
        cases h
        simp only [Bool.and_eq_true, decide_eq_true_eq] at hb
        obtain ⟨⟨⟨hty, hN⟩, hx⟩, hf⟩ := hb
        obtain ⟨hf1, hf2⟩ := ny_fr_ok hf
        have key : ∀ tt, ((tt = 1 ∧ ty = .int) ∨ (tt = 2 ∧ ty = .byte)) → (ny_KK 0)[m]? = some (tt, x.toNatClampNeg) → ny_ok1 Ln I0 y pc L (Value.int x :: t) m n ws rs (pc + 2, L, .ref m :: t, m + 1, n + x.toNatClampNeg, ws, rs) := by
          intro tt htt hkd
          obtain ⟨hs1, hs2⟩ := ny_Kt_suc (Ln := Ln) h5 hkd
          refine ⟨⟨Nat.le_succ _, Nat.le_add_right _ _, hs2⟩, fun d mc ms k nn k' nn' Ret e1 e2 hk' hn' hJ => ?_⟩
          obtain rfl : k' = k + 1 := by
            have e1 : k' + m = k + (m + 1) := e1
            omega
          obtain rfl : nn' = nn + x.toNatClampNeg := by
            have e2 : nn' + n = nn + (n + x.toNatClampNeg) := e2
            omega
          intro p l e Rm s mm args below meth c H locs ls Q E C hAO hk hn hR hl hend
          refine ny_w_newa C htt hN hx hd hR (by rw [hlen]; exact h5) (by rw [hlen]; exact ny_fr_I h0 h5 hf1) hk' hn' fun H' hR' => ?_
          rw [hs1] at hR'
          rw [hlen]
          exact hJ p l e Rm s mm args below meth c H' locs ls Q E C hAO hk' hn' hR' hl hend
        rcases hty with ⟨h1, h2⟩ | ⟨h1, h2⟩
        · exact key 1 (Or.inl ⟨rfl, h1⟩) h2
        · exact key 2 (Or.inr ⟨rfl, h1⟩) h2
      next => cases h
    next => cases h
  case anewarray i =>
    obtain rfl := ny_len_of (x := 3) hok rfl (by decide)
    simp only [ny_es1] at h
    split at h
    next x t =>
      split at h
      next hb =>
        cases h
        simp only [Bool.and_eq_true, decide_eq_true_eq] at hb
        obtain ⟨⟨⟨hkd, hN⟩, hx⟩, hf⟩ := hb
        obtain ⟨hf1, hf2⟩ := ny_fr_ok hf
        unfold ny_okp at hok
        simp only [Bool.and_eq_true, decide_eq_true_eq] at hok
        obtain ⟨hs1, hs2⟩ := ny_Kt_suc (Ln := Ln) h5 hkd
        have htt : ((if a = 2 then 3 else if a = 6 then 4 else 5) = 3 ∧ a = 2) ∨ ((if a = 2 then 3 else if a = 6 then 4 else 5) = 4 ∧ a = 6) ∨ ((if a = 2 then 3 else if a = 6 then 4 else 5) = 5 ∧ a = 7) := by
          rcases hok.2.2 with rfl | rfl | rfl
          · exact Or.inl ⟨rfl, rfl⟩
          · exact Or.inr (Or.inl ⟨rfl, rfl⟩)
          · exact Or.inr (Or.inr ⟨rfl, rfl⟩)
        refine ⟨⟨Nat.le_succ _, Nat.le_add_right _ _, hs2⟩, fun d mc ms k nn k' nn' Ret e1 e2 hk' hn' hJ => ?_⟩
        obtain rfl : k' = k + 1 := by
          have e1 : k' + m = k + (m + 1) := e1
          omega
        obtain rfl : nn' = nn + x.toNatClampNeg := by
          have e2 : nn' + n = nn + (n + x.toNatClampNeg) := e2
          omega
        intro p l e Rm s mm args below meth c H locs ls Q E C hAO hk hn hR hl hend
        refine ny_w_newr C hAO htt hN hx hok.2.1 hd hR (by rw [hlen]; exact h5) (by rw [hlen]; exact ny_fr_R h5 hf2) hk' hn' fun H' hR' => ?_
        rw [hs1] at hR'
        rw [hlen]
        exact hJ p l e Rm s mm args below meth c H' locs ls Q E C hAO hk' hn' hR' hl hend
      next => cases h
    next => cases h
  case multianewarray i kk =>
    obtain rfl := ny_len_of (x := 4) hok rfl (by decide)
    simp only [ny_es1] at h
    split at h
    next yy x t =>
      split at h
      next hb =>
        cases h
        simp only [Bool.and_eq_true, decide_eq_true_eq] at hb
        obtain ⟨⟨⟨⟨⟨⟨rfl, rfl⟩, rfl⟩, rfl⟩, rfl⟩, hkd⟩, hf⟩ := hb
        obtain ⟨hf1, hf2⟩ := ny_fr_ok hf
        have hs1 := ny_Kt_add (Ln := Ln) h5 hkd
        have hs2 : m + 5 ≤ 120 := by
          have h1 := congrArg List.length hkd
          rw [List.length_take, List.length_drop, show (ny_KK 0).length = 120 from rfl] at h1
          have h1 : min 5 (120 - m) = 5 := h1
          omega
        refine ⟨⟨Nat.le_add_right _ _, Nat.le_add_right _ _, hs2⟩, fun d mc ms k nn k' nn' Ret e1 e2 hk' hn' hJ => ?_⟩
        obtain rfl : k' = k + 5 := by
          have e1 : k' + m = k + (m + 5) := e1
          omega
        obtain rfl : nn' = nn + 16 := by
          have e2 : nn' + n = nn + (n + 16) := e2
          omega
        intro p l e Rm s mm args below meth c H locs ls Q E C hAO hk hn hR hl hend
        refine ny_w_mul C hAO (by rw [← hcn]; decide +kernel) hd hR (by rw [hlen]; exact h5) (fun j => ?_) (by rw [hlen]; exact ny_fr_R h5 hf2) hk' hn' fun H' hR' => ?_
        · rw [hlen]
          exact ny_fr_I h0 (by omega) fun q hq => by have := hf1 q hq; omega
        · rw [hs1, hlen] at hR'
          rw [hlen]
          exact hJ p l e Rm s mm args below meth c H' locs ls Q E C hAO hk' hn' hR' hl hend
      next => cases h
    next => cases h
  case putfield i =>
    obtain rfl := ny_len_of (x := 3) hok rfl (by decide)
    simp only [ny_es1] at h
    split at h
    next x o t =>
      split at h
      next hb =>
        cases h
        simp only [Bool.and_eq_true, Bool.or_eq_true, decide_eq_true_eq] at hb
        obtain ⟨hkt, hb⟩ := hb
        obtain ⟨ho5, -, hK⟩ := ny_kt_ok (Ln := Ln) hkt
        have hkd : ny_kd (ny_Kt Ln m) o (0, a) = true := decide_eq_true hK
        have ho5 : decide (5 ≤ o) = true := decide_eq_true ho5
        rcases hb with hb | ⟨hb, hx⟩
        · exact ny_es1_wr (q := (pc, 3, .putfield i, a, b, v, w)) (g := some (ny_kd (ny_Kt Ln m) o (0, a) && decide (5 ≤ o))) hy hq hm (by simp only [ny_stp, ny_pf, hb]) (fun g hg => by cases hg; rw [hkd, ho5]; rfl)
        · exact ny_es1_wr (q := (pc, 3, .putfield i, a, b, v, w)) (g := some (ny_kd (ny_Kt Ln m) o (0, a) && decide (5 ≤ o) && (decide (x = 0) || decide (x = 1)))) hy hq hm (by simp only [ny_stp, ny_pf, hb]) (fun g hg => by
            cases hg
            rw [hkd, ho5]
            rcases hx with rfl | rfl <;> rfl)
      next => cases h
    next x o t =>
      split at h
      next hb =>
        cases h
        simp only [Bool.and_eq_true, decide_eq_true_eq] at hb
        obtain ⟨⟨⟨⟨hkt, hb3⟩, rfl⟩, hct⟩, hx4⟩ := hb
        obtain ⟨-, -, hK⟩ := ny_kt_ok (Ln := Ln) hkt
        unfold ny_okp at hok
        simp only [Bool.and_eq_true] at hok
        have ho11 : a < 11 := by
          rcases Nat.lt_or_ge a 11 with h | h
          · exact h
          · exfalso
            have h2 := hok.2
            rcases (show a = 11 ∨ a = 12 ∨ a = 13 ∨ a = 14 ∨ a = 15 ∨ a = 16 ∨ a = 17 by omega) with rfl | rfl | rfl | rfl | rfl | rfl | rfl <;> cases h2
        refine ⟨⟨Nat.le_refl _, Nat.le_refl _, hm⟩, fun d mc ms k nn k' nn' Ret e1 e2 _ _ hJ => ?_⟩
        obtain rfl : k' = k := Nat.add_right_cancel e1
        obtain rfl : nn' = nn := Nat.add_right_cancel e2
        intro p l e Rm s mm args below meth c H locs ls Q E C hAO hk hn hR hl hend
        exact ny_w_pfr C ho11 hcn hR hok.2 hd hb3 hct (decide_eq_true hK) hx4 fun H' locs' hR' => hJ p l e Rm s mm args below meth c H' locs' ls Q E C hAO hk hn hR' hl hend
      next => cases h
    next => cases h
  case iastore =>
    obtain rfl := ny_len_of (x := 1) hok rfl (by decide)
    simp only [ny_es1] at h
    split at h
    next x j o t =>
      split at h
      next r hr =>
        split at h
        next hb =>
          cases h
          rw [Bool.and_eq_true] at hb
          obtain ⟨ho5, -, hK⟩ := ny_kt_ok (Ln := Ln) hr
          have hg : ny_aw (ny_Kt Ln m) 1 o j = true := by
            unfold ny_aw ny_ar
            rw [hK]
            show (decide (r.1 = 1) && ny_in j r.2 && decide (5 ≤ o)) = true
            rw [Nat.eq_of_beq_eq_true hb.1, hb.2, decide_eq_true ho5]
            rfl
          exact ny_es1_wr (q := (pc, 1, .iastore, a, b, v, w)) (g := some (ny_aw (ny_Kt Ln m) 1 o j)) hy hq hm rfl (fun g hg' => by cases hg'; exact hg)
        next => cases h
      next => cases h
    next => cases h
  case aastore =>
    obtain rfl := ny_len_of (x := 1) hok rfl (by decide)
    simp only [ny_es1] at h
    split at h
    next x j o t =>
      split at h
      next r hr =>
        split at h
        next u hu =>
          split at h
          next hb =>
            cases h
            simp only [Bool.and_eq_true, decide_eq_true_eq] at hb
            obtain ⟨ho5, -, hK⟩ := ny_kt_ok (Ln := Ln) hr
            obtain ⟨-, -, hKx⟩ := ny_kt_ok (Ln := Ln) hu
            refine ⟨⟨Nat.le_refl _, Nat.le_refl _, hm⟩, fun d mc ms k nn k' nn' Ret e1 e2 _ _ hJ => ?_⟩
            obtain rfl : k' = k := Nat.add_right_cancel e1
            obtain rfl : nn' = nn := Nat.add_right_cancel e2
            intro p l e Rm s mm args below meth c H locs ls Q E C hAO hk hn hR hl hend
            exact ny_w_aast C hR hb.1.2 ho5 hK (ci := u.2) (decide_eq_true (by rw [hKx, ← hb.1.1])) hb.2 hd fun H' locs' hR' => hJ p l e Rm s mm args below meth c H' locs' ls Q E C hAO hk hn hR' hl hend
          next => cases h
        next => cases h
      next => cases h
    next => cases h
  all_goals exact ny_es1_eo hy hq hm h
end NYE1
