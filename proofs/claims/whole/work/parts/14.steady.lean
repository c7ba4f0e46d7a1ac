/-! the memory behind the constructors; the methods that are called -/
def ny_kl : ny_K := [(0, 9), (0, 1), (0, 2), (1, 6), (1, 6), (1, 6), (1, 6), (1, 16), (1, 6), (1, 6), (0, 5), (1, 8), (1, 8), (1, 8), (1, 200), (1, 200), (1, 200), (1, 205), (0, 4), (1, 6), (1, 6), (1, 6), (1, 6), (0, 2), (1, 6), (0, 1), (0, 2), (1, 6), (1, 6), (1, 6), (1, 6), (1, 16), (1, 6), (1, 6), (0, 5), (1, 8), (1, 8), (1, 8), (1, 200), (1, 200), (1, 200), (1, 205), (0, 4), (1, 6), (1, 6), (1, 6), (1, 6), (0, 2), (1, 6), (0, 8), (2, 200), (1, 201), (1, 201), (1, 201), (0, 5), (1, 8), (1, 8), (1, 8), (1, 200), (1, 200), (1, 200), (1, 205), (0, 3), (3, 5), (1, 4), (1, 4), (0, 2), (1, 6), (0, 2), (1, 6), (0, 2), (1, 6), (0, 2), (1, 6), (0, 2), (1, 6), (6, 4), (1, 3), (1, 3), (1, 3), (1, 3), (4, 4), (5, 4), (0, 0), (1, 30), (0, 6), (1, 40), (0, 6), (1, 40), (0, 6), (1, 40), (0, 6), (1, 40), (0, 7), (0, 7), (0, 7), (0, 7), (0, 10), (1, 572), (1, 572), (1, 190), (1, 200), (1, 572), (1, 4), (1, 4), (1, 16), (1, 16), (1, 12), (1, 4), (1, 4), (1, 160), (1, 4), (1, 4), (1, 4), (1, 30)]
def ny_KK (Ln : Nat) : ny_K := (1, Ln) :: (1, 6) :: (0, 11) :: (2, 105) :: (9, 0) :: ny_kl
def ny_rl : List (List (Option Nat)) := [[], [], [none, some 3], [], [], [some 6, some 30, none, some 54, some 67, some 81, none, some 86, some 87, some 88], [some 7, some 9, some 10, some 11, none, some 12, some 13, some 14, none, none, none, some 15, some 23, some 28], [some 8], [], [], [], [], [], [], [], [none, some 16, some 17, some 18, none, some 19, some 20, some 21, none, some 22], [], [], [], [], [], [], [], [none, some 24, some 25, some 26, some 27], [], [], [], [], [some 29], [], [some 31, some 33, some 34, some 35, none, some 36, some 37, some 38, none, none, none, some 39, some 47, some 52], [some 32], [], [], [], [], [], [], [], [none, some 40, some 41, some 42, none, some 43, some 44, some 45, none, some 46], [], [], [], [], [], [], [], [none, some 48, some 49, some 50, some 51], [], [], [], [], [some 53], [], [some 55, none, some 56, some 57, some 58, none, none, none, some 59], [], [], [], [], [none, some 60, some 61, some 62, none, some 63, some 64, some 65, none, some 66], [], [], [], [], [], [], [], [some 68, some 69, none, none, none, none, some 70], [some 71, some 73, some 75, some 77, some 79], [], [], [some 72], [], [some 74], [], [some 76], [], [some 78], [], [some 80], [], [some 82, some 83, some 84, some 85], [], [], [], [], [some 90, some 92, some 94, some 96], [some 98, some 99, some 100, some 101], [some 89], [], [none, none, some 91], [], [none, none, some 93], [], [none, none, some 95], [], [none, none, some 97], [], [], [], [], [], [some 103, some 104, none, some 105, some 106, none, none, none, none, none, none, none, some 107, some 108, some 109, none, none, none, none, none, none, none, some 110, some 111, none, none, some 112, none, some 113, some 114, some 115, some 116, some 117, some 118, some 119], [], [], [], [], [], [], [], [], [], [], [], [], [], [], [], [], []]
def ny_RR : ny_R := fun c j => (ny_rl.getD c []).getD j none
def ny_r1 (Ln : Nat) (Q : Int32 → ny_I → Prop) : ny_Q := fun v K' I' R' => K' = ny_KK Ln ∧ R' = ny_RR ∧ ∃ x : Int32, v = some (.int x) ∧ Q x I'
def ny_r0 (Ln : Nat) (Q : ny_I → Prop) : ny_Q := fun v K' I' R' => K' = ny_KK Ln ∧ R' = ny_RR ∧ v = none ∧ Q I'
def ny_rr (Ln : Nat) (Q : Nat → ny_I → Prop) : ny_Q := fun v K' I' R' => K' = ny_KK Ln ∧ R' = ny_RR ∧ ∃ x : Nat, v = some (.ref x) ∧ Q x I'
def ny_Cg (d : Nat) (z : ny_M) (av : List Value) (Ln : Nat) (I : ny_I) (Ret : ny_Q) : Prop := ny_Call d 0 0 z av (ny_KK Ln) I ny_RR Ret
def ny_C1 (d : Nat) (z : ny_M) (av : List Value) (Ln : Nat) (I : ny_I) (Q : Int32 → ny_I → Prop) : Prop := ny_Call d 0 0 z av (ny_KK Ln) I ny_RR (ny_r1 Ln Q)
def ny_C0 (d : Nat) (z : ny_M) (av : List Value) (Ln : Nat) (I : ny_I) (Q : ny_I → Prop) : Prop := ny_Call d 0 0 z av (ny_KK Ln) I ny_RR (ny_r0 Ln Q)
def ny_Cr (d : Nat) (z : ny_M) (av : List Value) (Ln : Nat) (I : ny_I) (Q : Nat → ny_I → Prop) : Prop := ny_Call d 0 0 z av (ny_KK Ln) I ny_RR (ny_rr Ln Q)
def ny_g (d : Nat) (y : ny_M) (pc : Nat) (L : ny_Lc) (S : List Value) (Ln : Nat) (I : ny_I) (Ret : ny_Q) : Prop := ny_G d 0 0 y pc L S (ny_KK Ln) I ny_RR 0 0 Ret
section NYSD
variable {d own Ln : Nat} {y z : ny_M} {pc i a b idx na : Nat} {v : Int32} {w : Int64} {L : ny_Lc} {S St av : List Value} {I : ny_I} {Ret : ny_Q} {Q1 : Int32 → ny_I → Prop} {Q0 : ny_I → Prop} {Qr : Nat → ny_I → Prop}
theorem ny_cv1 (o ci : Nat) (hy : ny_chk own y = true) (hi : y.2.2.2.2.2[i]? = some (pc, 3, .invokevirtual idx, a, b, v, w)) (hz : ny_zv z na = true) (hlk : ny_mem (.methodLink y.1.cls idx z.1) = true) (hkd : ny_kd (ny_KK Ln) o (0, ci) = true) (hci : ci < 11) (hcn : ny_cn.getD ci "" = z.1.cls)
    (hst : St = av.reverse ++ .ref o :: S) (hna : av.length = na) (hS4 : S.length ≤ 4) (hcall : ny_C1 d z (.ref o :: av) Ln I Q1) (kk : ∀ r I', Q1 r I' → ny_g (d + 1) y (pc + 3) L (.int r :: S) Ln I' Ret) : ny_g (d + 1) y pc L St Ln I Ret :=
  ny_callV (mc' := 0) (ms' := 0) hy hi hz hlk hkd hci hcn hst hna ⟨Nat.le_refl _, Nat.le_refl _⟩ hS4 hcall (fun v K' I' R' ⟨h1, h2, x, h3, h4⟩ => by subst h1; subst h2; subst h3; exact kk x I' h4)
theorem ny_cv0 (o ci : Nat) (hy : ny_chk own y = true) (hi : y.2.2.2.2.2[i]? = some (pc, 3, .invokevirtual idx, a, b, v, w)) (hz : ny_zv z na = true) (hlk : ny_mem (.methodLink y.1.cls idx z.1) = true) (hkd : ny_kd (ny_KK Ln) o (0, ci) = true) (hci : ci < 11) (hcn : ny_cn.getD ci "" = z.1.cls)
    (hst : St = av.reverse ++ .ref o :: S) (hna : av.length = na) (hS4 : S.length ≤ 4) (hcall : ny_C0 d z (.ref o :: av) Ln I Q0) (kk : ∀ I', Q0 I' → ny_g (d + 1) y (pc + 3) L S Ln I' Ret) : ny_g (d + 1) y pc L St Ln I Ret :=
  ny_callV (mc' := 0) (ms' := 0) hy hi hz hlk hkd hci hcn hst hna ⟨Nat.le_refl _, Nat.le_refl _⟩ hS4 hcall (fun v K' I' R' ⟨h1, h2, h3, h4⟩ => by subst h1; subst h2; subst h3; exact kk I' h4)
theorem ny_cvr (o ci : Nat) (hy : ny_chk own y = true) (hi : y.2.2.2.2.2[i]? = some (pc, 3, .invokevirtual idx, a, b, v, w)) (hz : ny_zv z na = true) (hlk : ny_mem (.methodLink y.1.cls idx z.1) = true) (hkd : ny_kd (ny_KK Ln) o (0, ci) = true) (hci : ci < 11) (hcn : ny_cn.getD ci "" = z.1.cls)
    (hst : St = av.reverse ++ .ref o :: S) (hna : av.length = na) (hS4 : S.length ≤ 4) (hcall : ny_Cr d z (.ref o :: av) Ln I Qr) (kk : ∀ r I', Qr r I' → ny_g (d + 1) y (pc + 3) L (.ref r :: S) Ln I' Ret) : ny_g (d + 1) y pc L St Ln I Ret :=
  ny_callV (mc' := 0) (ms' := 0) hy hi hz hlk hkd hci hcn hst hna ⟨Nat.le_refl _, Nat.le_refl _⟩ hS4 hcall (fun v K' I' R' ⟨h1, h2, x, h3, h4⟩ => by subst h1; subst h2; subst h3; exact kk x I' h4)
theorem ny_cs1 (hy : ny_chk own y = true) (hi : y.2.2.2.2.2[i]? = some (pc, 3, .invokestatic idx, a, b, v, w)) (hz : ny_zs z na = true) (hlk : ny_mem (.methodLink y.1.cls idx z.1) = true)
    (hst : St = av.reverse ++ S) (hna : av.length = na) (hS4 : S.length ≤ 4) (hcall : ny_C1 d z av Ln I Q1) (kk : ∀ r I', Q1 r I' → ny_g (d + 1) y (pc + 3) L (.int r :: S) Ln I' Ret) : ny_g (d + 1) y pc L St Ln I Ret :=
  ny_callS (mc' := 0) (ms' := 0) hy hi hz hlk hst hna ⟨Nat.le_refl _, Nat.le_refl _⟩ hS4 hcall (fun v K' I' R' ⟨h1, h2, x, h3, h4⟩ => by subst h1; subst h2; subst h3; exact kk x I' h4)
theorem ny_cs0 (hy : ny_chk own y = true) (hi : y.2.2.2.2.2[i]? = some (pc, 3, .invokestatic idx, a, b, v, w)) (hz : ny_zs z na = true) (hlk : ny_mem (.methodLink y.1.cls idx z.1) = true)
    (hst : St = av.reverse ++ S) (hna : av.length = na) (hS4 : S.length ≤ 4) (hcall : ny_C0 d z av Ln I Q0) (kk : ∀ I', Q0 I' → ny_g (d + 1) y (pc + 3) L S Ln I' Ret) : ny_g (d + 1) y pc L St Ln I Ret :=
  ny_callS (mc' := 0) (ms' := 0) hy hi hz hlk hst hna ⟨Nat.le_refl _, Nat.le_refl _⟩ hS4 hcall (fun v K' I' R' ⟨h1, h2, h3, h4⟩ => by subst h1; subst h2; subst h3; exact kk I' h4)
/-- an end -/
theorem ny_e1 {ty : FieldType} {x : Int32} (hy : ny_chk own y = true) (hi : y.2.2.2.2.2[i]? = some (pc, 1, .ireturn, a, b, v, w)) (ht : y.2.2.2.1 = some ty) (hn2 : narrow ty (.int x) = .int x) (h : Q1 x I) : ny_g d y pc L [.int x] Ln I (ny_r1 Ln Q1) :=
  ny_iret hy hi ht hn2 rfl ⟨rfl, rfl, x, rfl, h⟩
theorem ny_e0 (hy : ny_chk own y = true) (hi : y.2.2.2.2.2[i]? = some (pc, 1, .return_, a, b, v, w)) (ht : y.2.2.2.1 = none) (h : Q0 I) : ny_g d y pc L [] Ln I (ny_r0 Ln Q0) :=
  ny_vret hy hi ht rfl ⟨rfl, rfl, rfl, h⟩
theorem ny_er {o : Nat} {nm : String} (hy : ny_chk own y = true) (hi : y.2.2.2.2.2[i]? = some (pc, 1, .areturn, a, b, v, w)) (ht : y.2.2.2.1 = some (.object nm)) (ho : o ≠ 4) (h : Qr o I) : ny_g d y pc L [.ref o] Ln I (ny_rr Ln Qr) :=
  ny_aret hy hi ht ho rfl ⟨rfl, rfl, o, rfl, h⟩
theorem ny_nb {x : Int32} (h : x = 0 ∨ x = 1) : narrow .boolean (.int x) = .int x := by
  rcases h with rfl | rfl <;> decide +kernel
theorem ny_n1 (hz : ny_zb z na = true) (hL : (lg_sl av).length ≤ z.2.2.1) (h : ny_g d z 0 (lv_args 0 av) [] Ln I (ny_r1 Ln Q1)) : ny_C1 d z av Ln I Q1 := ny_ent hz hL h
theorem ny_n0 (hz : ny_zb z na = true) (hL : (lg_sl av).length ≤ z.2.2.1) (h : ny_g d z 0 (lv_args 0 av) [] Ln I (ny_r0 Ln Q0)) : ny_C0 d z av Ln I Q0 := ny_ent hz hL h
theorem ny_nr (hz : ny_zb z na = true) (hL : (lg_sl av).length ≤ z.2.2.1) (h : ny_g d z 0 (lv_args 0 av) [] Ln I (ny_rr Ln Qr)) : ny_Cr d z av Ln I Qr := ny_ent hz hL h
theorem ny_zv_b (h : ny_zv z na = true) : ny_zb z na = true := by
  simp only [ny_zv, Bool.and_eq_true] at h
  exact h.1.1
theorem ny_zs_b (h : ny_zs z na = true) : ny_zb z na = true := by
  simp only [ny_zs, Bool.and_eq_true] at h
  exact h.1
end NYSD
