/-! both: z, a bell by lot, times -/
def nz_u (x : Int32) : Nat := x.toBitVec.toNat
theorem nz_u_e (x : Int32) : nI (nz_u x) = x := Int32.toBitVec_inj.mp (by show BitVec.ofNat 32 _ = _; unfold nz_u; simp)
theorem nI_mod (n : Nat) : nI (n % 4294967296) = nI n := Int32.toBitVec_inj.mp (by
  show BitVec.ofNat 32 _ = BitVec.ofNat 32 _
  apply BitVec.eq_of_toNat_eq
  rw [BitVec.toNat_ofNat, BitVec.toNat_ofNat]
  exact Nat.mod_mod n 4294967296)
def nz_nz (z : Nat) : Nat := (z * 1103515245 + 12345) % 4294967296
theorem nz_nz_lt (z : Nat) : nz_nz z < 4294967296 := Nat.mod_lt _ (by decide)
theorem nz_nz_e (z : Nat) : nI z * (1103515245 : Int32) + (12345 : Int32) = nI (nz_nz z) := by
  unfold nz_nz
  rw [nI_mod, ny_lit, ny_lit, ny_mul, nI_add]
def nz_act (a : ny_a) (z : Nat) : Nat := z / 65536 % (a 0 + 1)
theorem nz_act_le (a : ny_a) (z : Nat) : nz_act a z ≤ a 0 := Nat.le_of_lt_succ (Nat.mod_lt _ (Nat.succ_pos _))
theorem nz_act_e {a : ny_a} {z : Nat} (h0 : a 0 ≤ 6) (hz : z < 4294967296) : ((nI z).toUInt32 >>> ((16 : Int32).toUInt32 &&& Int32.toUInt32 31)).toInt32 - ((nI z).toUInt32 >>> ((16 : Int32).toUInt32 &&& Int32.toUInt32 31)).toInt32 / (nI (a 0) + (1 : Int32)) * (nI (a 0) + (1 : Int32)) = nI (nz_act a z) := by
  have e : ((nI z).toUInt32 >>> ((16 : Int32).toUInt32 &&& Int32.toUInt32 31)).toInt32 = nI (z / 2 ^ 16) := pk_ushrN hz 16 16 (by decide)
  rw [e, ny_lit, nI_add, ny_rem (by omega) (by omega) (by omega)]
  rfl
def o_seed (x : Int32) (a : ny_a) : Int32 × ny_a := (nI (a 4), ny_au a 4 (nz_u x))
/-- z goes on -/
def nz_za (a : ny_a) : ny_a := ny_au a 4 (nz_nz (a 4))
def nz_zt (a : ny_a) : Nat := nz_act a (nz_nz (a 4))
def o_lot (a : ny_a) : Int32 × ny_a := if a 2 ≤ a 1 then (nI 4294967292, a) else (nI (ny_gow (nz_za a) (nz_zt a)), ny_goa (nz_za a) (nz_zt a))
def nz_ltr : Nat → ny_a → Nat × ny_a
  | 0, a => (0, a)
  | f + 1, a => (ny_gow (nz_za a) (nz_zt a) + (nz_ltr f (ny_goa (nz_za a) (nz_zt a))).1, (nz_ltr f (ny_goa (nz_za a) (nz_zt a))).2)
def nz_tms (a : ny_a) (v : Nat) : Nat → Nat → Nat
  | 0, _ => 0
  | n + 1, z => (if v ≤ (nz_ltr (a 2 - a 1) (ny_au a 4 z)).1 then 1 else 0) + nz_tms a v n ((nz_ltr (a 2 - a 1) (ny_au a 4 z)).2 4)
def o_times (x y : Int32) (a : ny_a) : Int32 := match nz_in 1 40 x, nz_in 0 999 y with
  | some n, some v => nI (nz_tms a v n (a 4))
  | _, _ => nI 4294967295
theorem nz_z4V {a : ny_a} (hV : ny_V a) (z : Nat) : ny_V (ny_au a 4 z) := nz_au_V hV (by omega)
theorem nz_ltr_1 {a : ny_a} (hV : ny_V a) (hb : a 1 < a 2) : ny_gow (nz_za a) (nz_zt a) ≤ 85 ∧ ny_V (ny_goa (nz_za a) (nz_zt a)) ∧ (∀ j, 38 ≤ j ∨ j = 0 ∨ j = 2 ∨ j = 4 → ny_goa (nz_za a) (nz_zt a) j = nz_za a j) ∧ ny_goa (nz_za a) (nz_zt a) 1 = a 1 + 1 := by
  have g := nz_go (nz_z4V hV (nz_nz (a 4))) (act := nz_zt a) (by show nz_zt a ≤ a 0; exact nz_act_le a _) (by show a 1 < a 2; exact hb)
  exact ⟨g.1, g.2.1, fun j hj => g.2.2.1 j (by omega) (by omega) fun k hk => by omega, g.2.2.2.1⟩
theorem nz_ltr_b : ∀ f {a : ny_a}, ny_V a → a 1 + f ≤ a 2 → ny_V (nz_ltr f a).2 ∧ (∀ j, 38 ≤ j ∨ j = 0 ∨ j = 2 → (nz_ltr f a).2 j = a j) ∧ (nz_ltr f a).2 1 = a 1 + f ∧ (nz_ltr f a).1 ≤ 85 * f := by
  intro f
  induction f with
  | zero => intro a hV _; exact ⟨hV, fun _ _ => rfl, rfl, Nat.le_refl _⟩
  | succ f ih =>
    intro a hV hb
    obtain ⟨g1, g2, g3, g4⟩ := nz_ltr_1 hV (by omega)
    have e2 : ny_goa (nz_za a) (nz_zt a) 2 = a 2 := g3 2 (by omega)
    obtain ⟨i1, i2, i3, i4⟩ := ih g2 (by omega)
    rw [nz_ltr]
    refine ⟨i1, fun j hj => ?_, by dsimp only; omega, by dsimp only; omega⟩
    dsimp only
    rw [i2 j hj, g3 j (by omega)]
    exact nz_au_ne (by omega)
theorem nz_tms_le {a : ny_a} {v : Nat} : ∀ n z, nz_tms a v n z ≤ n := by
  intro n
  induction n with
  | zero => intro z; exact Nat.le_refl _
  | succ n ih => intro z; rw [nz_tms]; have := ih ((nz_ltr (a 2 - a 1) (ny_au a 4 z)).2 4); split <;> omega
theorem nz_Ba_4 {I : ny_I} {a : ny_a} {z : Nat} (hV : ny_V a) (h : ny_Ba I a) : ny_Ba I (ny_au a 4 z) := by
  have ea : ∀ j, j ≠ 4 → ny_au a 4 z j = a j := fun j hj => nz_au_ne hj
  have v := hV.1
  obtain ⟨⟨h1, h2⟩, h3, h4, h5, ⟨h6, h7⟩, h8, h9, h10⟩ := h
  unfold ny_Ba
  rw [ea 0 (by omega), ea 2 (by omega), ea 5 (by omega), ea 7 (by omega)]
  refine ⟨⟨h1, h2⟩, fun k hk => ?_, fun f hf => ?_, fun b hb => ?_, ⟨h6, h7⟩, fun r hr => ?_, fun i hi => ?_, h10⟩
  · rw [ea _ (by omega), ea _ (by omega), ea _ (by omega)]; exact h3 k hk
  · rw [ea _ (by omega), ea _ (by omega)]; exact h4 f hf
  · rw [ea _ (by omega)]; exact h5 b hb
  · rw [ea _ (by omega), ea _ (by omega), ea _ (by omega)]; exact h8 r hr
  · rw [ea _ (by omega), ea _ (by omega), ea _ (by omega)]; exact h9 i hi
theorem nz_Mo_4 {I : ny_I} {a : ny_a} {c z : Nat} (h : ny_Mo I c a) : ny_Mo I c (ny_au a 4 z) := by
  have ea : ∀ j, j ≠ 4 → ny_au a 4 z j = a j := fun j hj => nz_au_ne hj
  obtain ⟨h1, h2, m, h3, h4, h5⟩ := h
  refine ⟨by rw [ea 1 (by omega)]; exact h1, fun k hk => ?_, m, h3, h4, fun k hk => ?_⟩
  · rw [ea 0 (by omega)] at hk
    rw [ea _ (by omega)]; exact h2 k hk
  · rw [ea 0 (by omega), ea _ (by omega)]; exact h5 k hk
theorem nz_Cl_z {I : ny_I} {a : ny_a} {z : Nat} (hV : ny_V a) (hC : ny_Cl I a) : ny_Cl (ny_up I 6 10 (nI z)) (ny_au a 4 z) := by
  have e : ∀ q, q ≠ 6 → ny_up I 6 10 (nI z) q = I q := fun q hq => ny_upne _ hq _ _
  have ea : ∀ j, j ≠ 4 → ny_au a 4 z j = a j := fun j hj => nz_au_ne hj
  have v := hV.1
  have e6 : ∀ j, j ≠ 10 → ny_up I 6 10 (nI z) 6 j = I 6 j := fun j hj => by simp (disch := omega) only [ny_uprd, if_neg]
  have hB := nz_Ba_4 (z := z) hV hC.1
  obtain ⟨⟨h1, h2⟩, h3, h4, h5, h67, h8, h9, h10⟩ := hB
  refine ⟨⟨⟨by rw [e6 4 (by omega)]; exact h1, by rw [e6 8 (by omega)]; exact h2⟩, ?_, ?_, ?_, ?_, ?_, ?_, ?_⟩, nz_Mo_q (e 7 (by omega)) (e 8 (by omega)) (nz_Mo_4 hC.2.1), ⟨?_, ?_⟩, ?_, fun r hr => ?_⟩
  · rw [e 9 (by omega), e 10 (by omega), e 11 (by omega)]; exact h3
  · rw [e 13 (by omega), e 14 (by omega)]; exact h4
  · rw [e 12 (by omega)]; exact h5
  · rw [e 15 (by omega)]; exact h67
  · rw [e 16 (by omega), e 17 (by omega), e 18 (by omega)]; exact h8
  · intro i hi
    rw [e 19 (by omega), e 20 (by omega), e 21 (by omega)]
    obtain ⟨g1, g2⟩ := h9 i hi
    exact ⟨g1, fun q => ⟨nz_vr_mv (fun j _ => by rw [e 22 (by omega)]) (g2 q).1, nz_vr_mv (fun j _ => by rw [e 22 (by omega)]) (g2 q).2⟩⟩
  · rw [e 1 (by omega)]; exact h10
  · rw [e6 9 (by omega), ea 3 (by omega)]; exact hC.2.2.1.1
  · rw [nz_au_eq]
    simp (disch := omega) only [ny_uprd, if_true, and_self]
  · rw [e 23 (by omega), ea 6 (by omega)]; exact hC.2.2.2.1
  · rw [ea 6 (by omega)] at hr
    rw [e 24 (by omega), e 25 (by omega), e 26 (by omega), e 27 (by omega), ea _ (by omega), ea _ (by omega), ea _ (by omega), ea _ (by omega)]
    exact hC.2.2.2.2 r hr
section NZLO
variable {d Ln : Nat} {I : ny_I} {Q : Int32 → ny_I → Prop} {Q0 : ny_I → Prop} {a : ny_a}
theorem q_Md_seed {x : Int32} (ha : ny_Md I a) (h : ∀ I', nz_af 0 I' I (o_seed x a).2 → Q (o_seed x a).1 I') : ny_C1 (d + 1) m_Md_seed [.ref 102, .int x] Ln I Q := by
  refine s_Md_seed_0 ?_
  have := q_Md_becomes (d := d) (Ln := Ln) (Q := Q) (i := 4) (v := nz_u x) ha (by decide) h
  rw [nz_u_e] at this
  exact this
theorem q_Md_goesByLot (ha : ny_Md I a) (hV : ny_V a) (h : ∀ I', ny_Md I' (ny_goa (nz_za a) (nz_zt a)) → (∀ c, c ≠ 103 → I' c = I c) → Q (nI (ny_gow (nz_za a) (nz_zt a))) I') : ny_C1 (d + 5) m_Md_goesByLot [.ref 102] Ln I Q := by
  have v := hV.1
  have e4 : Int32.toNatClampNeg 4 = 4 := rfl
  have e0 : Int32.toNatClampNeg 0 = 0 := rfl
  refine s_Md_goesByLot_0 ⟨rfl, rfl, rfl, rfl, ?_, ?_⟩
  · rw [e4, e0, ny_uprd, if_neg (by omega), ha 0, ny_lit, nI_add]
    have : ¬ nI (a 0 + OfNat.ofNat 1) = 0 := nI_ne0 (Nat.succ_pos _) (by show a 0 + 1 < _; omega)
    simp only [this, decide_false, Bool.not_false]
  · rw [e4, e0, ha 4, nz_nz_e]
    simp (disch := omega) only [ny_uprd, if_neg, if_true, and_self, ha 0]
    rw [nz_act_e v.1 (nz_nz_lt _)]
    have hM := nz_Md_up ha 4 (nz_nz (a 4))
    exact q_Md_goesWith (d := d) hM (nz_z4V hV _) (by show nz_act a (nz_nz (a 4)) ≤ a 0; exact nz_act_le a _) fun I' h1 h2 => h I' h1 fun c x => by rw [h2 c x, ny_upne _ x]
theorem q_Md_lot (ha : ny_Md I a) (hV : ny_V a) (h : ∀ I', nz_af 0 I' I (o_lot a).2 → Q (o_lot a).1 I') : ny_C1 (d + 6) m_Md_lot [.ref 102] Ln I Q := by
  unfold o_lot at h
  refine s_Md_lot_0 (q_Md_isOver ha hV ?_)
  by_cases c : a 2 ≤ a 1
  · rw [if_pos c] at h ⊢
    exact ⟨fun q => absurd q (by decide), fun _ => by rw [ny_m4]; exact h I (nz_af_r ha)⟩
  · rw [if_neg c] at h ⊢
    exact ⟨fun _ => q_Md_goesByLot ha hV fun I' h1 h2 => h I' ⟨h1, fun c x _ => h2 c x, fun j hj => absurd hj (by omega)⟩, fun q => absurd rfl q⟩
theorem q_Md_times {x y : Int32} (ha : ny_Md I a) (hV : ny_V a) (h : ∀ I', nz_af 0 I' I a → Q (o_times x y a) I') : ny_C1 (d + 6) m_Md_times [.ref 102, .int x, .int y] Ln I Q := by
  have no : o_times x y a = nI 4294967295 → Q (-1 : Int32) I := by
    intro e
    rw [ny_m1, ← e]; exact h I (nz_af_r ha)
  refine s_Md_times_0 (q_Md_I 1 40 rfl rfl (by decide) (by decide) (fun n en hn1 hn ex => ⟨fun q => absurd q (by decide), fun _ => q_Md_I 0 999 rfl rfl (by decide) (by decide) (fun v ev _ hv ey => ⟨fun _ => q_Md_laysAside ha (by decide) fun I1 ha1 hA1 => ?_, fun q => absurd q (by decide)⟩) (fun ev => ⟨fun q => absurd rfl q, fun _ => no (by simp only [o_times, en, ev])⟩)⟩) fun en => ⟨fun _ => no (by simp only [o_times, en]), fun q => absurd rfl q⟩)
  subst ex ey
  simp only [o_times, en, ev] at h
  have vv := hV.1
  -- all bells by lot
  have k80 : ∀ (k c : Nat) f (a' : ny_a) (w : Nat) (I2 : ny_I), a' 1 + f = a' 2 → ny_V a' → ny_Md I2 a' → nz_as 0 I2 I a → w + 85 * f ≤ 1360 → (∀ I', ny_Md I' (nz_ltr f a').2 → nz_as 0 I' I a → ny_g (d + 6) m_Md_times 36 [(0, .ref 102), (1, .int (nI n)), (2, .int (nI v)), (3, .int (nI (c + if v ≤ w + (nz_ltr f a').1 then 1 else 0))), (4, .int (nI (k + 1)))] [] Ln I' (ny_r1 Ln Q)) →
      ny_g (d + 6) m_Md_times 80 [(0, .ref 102), (1, .int (nI n)), (2, .int (nI v)), (3, .int (nI c)), (4, .int (nI k)), (6, .int (nI w))] [] Ln I2 (ny_r1 Ln Q) := by
    intro k c f
    induction f with
    | zero =>
      intro a' w I2 hf hV' hM hA hw hN
      have := hN I2 hM hA
      rw [show (nz_ltr 0 a').1 = 0 from rfl, Nat.add_zero] at this
      refine s_Md_times_80 (q_Md_isOver hM hV' ?_)
      rw [if_pos (by omega)]
      simp (disch := omega) only [ny_lit, nI_add, ny_mul, nI_clamp, ny_le, ny_lt, ny_eq, ny_div, ny_rem, ny_rem2, ny_inN]
      refine ⟨fun _ => ⟨fun c1 => ?_, fun c1 => ?_⟩, fun q => absurd q (by decide)⟩
      · rw [if_neg (by omega)] at this; exact this
      · rw [if_pos (by omega)] at this; exact this
    | succ f ih =>
      intro a' w I2 hf hV' hM hA hw hN
      obtain ⟨g1, g2, g3, g4⟩ := nz_ltr_1 hV' (by omega)
      have e2 : ny_goa (nz_za a') (nz_zt a') 2 = a' 2 := g3 2 (by omega)
      refine s_Md_times_80 (q_Md_isOver hM hV' ?_)
      rw [if_neg (by omega)]
      refine ⟨fun q => absurd rfl q, fun _ => q_Md_goesByLot hM hV' fun I3 h1 h2 => ?_⟩
      rw [nI_add]
      refine ih _ (w + ny_gow (nz_za a') (nz_zt a')) I3 (by omega) g2 h1 (nz_as_m hA h2) (by omega) fun I' h3 h4 => ?_
      have := hN I' h3 h4
      rw [nz_ltr] at this
      rw [Nat.add_assoc]; exact this
  have k36 : ∀ m k c z (a' : ny_a) (I2 : ny_I), k + m = n → ny_Md I2 a' → (∀ j, 38 ≤ j → a' j = a j) → a' 4 = z → (k = 0 → z = a 4) → nz_as 0 I2 I a → c ≤ k → c + nz_tms a v m z = nz_tms a v n (a 4) → ny_g (d + 6) m_Md_times 36 [(0, .ref 102), (1, .int (nI n)), (2, .int (nI v)), (3, .int (nI c)), (4, .int (nI k))] [] Ln I2 (ny_r1 Ln Q) := by
    intro m
    induction m with
    | zero =>
      intro k c z a' I2 hk hM hs hz hz0 hA hc e
      rw [nz_tms, Nat.add_zero] at e
      refine s_Md_times_36 ?_
      simp (disch := omega) only [ny_lit, nI_add, ny_mul, nI_clamp, ny_le, ny_lt, ny_eq, ny_div, ny_rem, ny_rem2, ny_inN]
      refine ⟨fun _ => q_Md_laysBack hM (by decide) hs hA fun I' h4 _ => ?_, fun q => absurd q (by omega)⟩
      rw [e]; exact h I' h4
    | succ m ih =>
      intro k c z a' I2 hk hM hs hz hz0 hA hc e
      have e4 : Int32.toNatClampNeg 4 = 4 := rfl
      rw [nz_tms] at e
      obtain ⟨b1, b2, b3, b4⟩ := nz_ltr_b (a 2 - a 1) (a := ny_au a 4 z) (nz_z4V hV z) (by show a 1 + (a 2 - a 1) ≤ a 2; omega)
      have b5 := nz_tms_le (a := a) (v := v) m ((nz_ltr (a 2 - a 1) (ny_au a 4 z)).2 4)
      refine s_Md_times_36 ?_
      simp (disch := omega) only [ny_lit, nI_add, ny_mul, nI_clamp, ny_le, ny_lt, ny_eq, ny_div, ny_rem, ny_rem2, ny_inN]
      refine ⟨fun q => absurd q (by omega), fun _ => ⟨trivial, q_Md_laysBack hM (by decide) hs hA fun I3 h4 h105 => ?_⟩⟩
      have run : ∀ I4, I4 = ny_up I3 103 4 (nI z) → ny_g (d + 6) m_Md_times 80 [(0, .ref 102), (1, .int (nI n)), (2, .int (nI v)), (3, .int (nI c)), (4, .int (nI k)), (6, .int (nI 0))] [] Ln I4 (ny_r1 Ln Q) := by
        intro I4 e5
        subst e5
        refine k80 k c (a 2 - a 1) (ny_au a 4 z) 0 _ (by show a 1 + (a 2 - a 1) = a 2; omega) (nz_z4V hV z) (nz_Md_up h4.1 4 z) ⟨fun c x y => by rw [ny_upne _ x]; exact h4.2.1 c x y, fun j hj => by rw [ny_upne _ (by decide), h105]; exact hA.2.1 j hj, fun j hj => by rw [ny_upne _ (by decide), h105]; exact hA.2.2 j hj⟩ (by omega) fun I' h5 h6 => ?_
        rw [Nat.zero_add]
        refine ih (k + 1) _ _ _ I' (by omega) h5 (fun j hj => ?_) rfl (fun q => absurd q (by omega)) h6 ?_ ?_
        · rw [b2 j (by omega)]; exact nz_au_ne (by omega)
        · split <;> omega
        · omega
      refine ⟨fun c0 => ?_, fun c0 => ?_⟩
      · refine ⟨trivial, run _ ?_⟩
        rw [hM 4, hz]
      · refine ⟨trivial, trivial, run _ ?_⟩
        rw [h4.1 4, hz0 c0]
  exact k36 n 0 0 (a 4) a I1 (by omega) ha1 (fun _ _ => rfl) rfl (fun _ => rfl) hA1 (Nat.le_refl _) (by omega)
theorem q_No_seed {x : Int32} (hC : ny_Cl I a) (hV : ny_V a) (h : ∀ I', nz_cf I' I (o_seed x a).2 → Q (o_seed x a).1 I') : ny_C1 d m_No_seed [.ref 5, .int x] Ln I Q := by
  refine s_No_seed_0 ?_
  rw [hC.2.2.1.2]
  refine h _ ⟨?_, fun q hq => ny_upne _ (by omega) _ _⟩
  have := nz_Cl_z (z := nz_u x) hV hC
  rw [nz_u_e] at this
  exact this
theorem q_Ba_actOf {z : Nat} (hB : I 6 4 = nI (a 0)) (hV : ny_V a) (hz : z < 4294967296) (h : Q (nI (nz_act a z)) I) : ny_C1 d m_Ba_actOf [.ref 6, .int (nI z)] Ln I Q := by
  have v := hV.1
  have e := nz_act_e (a := a) v.1 hz
  refine s_Ba_actOf_0 ?_
  rw [hB, e]
  simp (disch := omega) only [ny_lit, nI_add, ny_eq]
  refine ⟨fun c => ?_, fun c => ⟨by simp, h⟩⟩
  rw [ny_le (b := 0) (by omega) (by decide)] at c
  omega
theorem q_No_lot (hC : ny_Cl I a) (hV : ny_V a) (h : ∀ I', nz_cf I' I (o_lot a).2 → Q (o_lot a).1 I') : ny_C1 (d + 5) m_No_lot [.ref 5] Ln I Q := by
  unfold o_lot at h
  refine s_No_lot_0 (q_Ba_isOver nz_m7 hC.1 hC.2.1 hV ?_)
  by_cases c : a 2 ≤ a 1
  · rw [if_pos c] at h ⊢
    exact ⟨fun q => absurd q (by decide), fun _ => by rw [ny_m4]; exact h I (nz_cf_r hC)⟩
  · rw [if_neg c] at h ⊢
    refine ⟨fun _ => s_Ba_nextZ_0 ?_, fun q => absurd rfl q⟩
    rw [hC.2.2.1.2, nz_nz_e]
    have hC2 := nz_Cl_z (z := nz_nz (a 4)) hV hC
    rw [show ny_up I 6 10 (nI (nz_nz (a 4))) 6 10 = nI (nz_nz (a 4)) by simp (disch := omega) only [ny_uprd, if_true, and_self]]
    refine q_Ba_actOf (a := a) (by simp (disch := omega) only [ny_uprd, if_neg]; exact hC.1.1.1) hV (nz_nz_lt _) ?_
    exact q_No_goOn (a := nz_za a) hC2 (nz_z4V hV _) (by show nz_act a (nz_nz (a 4)) ≤ a 0; exact nz_act_le a _) (by show a 1 < a 2; omega) fun I' hF => h I' ⟨hF.1, fun q hq => by rw [hF.2 q hq, ny_upne _ (by omega)]⟩
theorem q_Ba_timesByLot {n v : Nat} (hC : ny_Cl I a) (hV : ny_V a) (hn : n ≤ 40) (hv : v ≤ 999) (h : ∀ I', nz_fr 28 I' I → Q (nI (nz_tms a v n (a 4))) I') : ny_C1 (d + 4) m_Ba_timesByLot [.ref 6, .int (nI n), .int (nI v)] Ln I Q := by
  have vv := hV.1
  have k35 : ∀ (k c z0 : Nat) f (a' : ny_a) (w : Nat) (I2 : ny_I), a' 1 + f = a' 2 → a' 2 = a 2 → ny_V a' → ny_Ba I2 a' → ny_Mo I2 28 a' → nz_fr 28 I2 I → w + 85 * f ≤ 1360 → (∀ I', nz_fr 28 I' I → ny_g (d + 4) m_Ba_timesByLot 11 [(0, .ref 6), (1, .int (nI n)), (2, .int (nI v)), (3, .int (nI (c + if v ≤ w + (nz_ltr f a').1 then 1 else 0))), (4, .int (nI ((nz_ltr f a').2 4))), (5, .int (nI (k + 1)))] [] Ln I' (ny_r1 Ln Q)) →
      ny_g (d + 4) m_Ba_timesByLot 35 [(0, .ref 6), (1, .int (nI n)), (2, .int (nI v)), (3, .int (nI c)), (4, .int (nI (a' 4))), (5, .int (nI k)), (6, .ref 28), (7, .int (nI w)), (8, .int (nI (a' 1)))] [] Ln I2 (ny_r1 Ln Q) := by
    intro k c z0 f
    induction f with
    | zero =>
      intro a' w I2 hf h2 hV' hB hM hF hw hN
      have := hN I2 hF
      rw [show (nz_ltr 0 a').1 = 0 from rfl, Nat.add_zero] at this
      have v' := hV'.1
      refine s_Ba_timesByLot_35 ?_
      rw [hB.1.2]
      simp (disch := omega) only [ny_lit, nI_add, ny_mul, nI_clamp, ny_le, ny_lt, ny_eq, ny_div, ny_rem, ny_rem2, ny_inN]
      refine ⟨fun _ => ⟨fun c1 => ?_, fun c1 => ?_⟩, fun q => absurd q (by omega)⟩
      · rw [if_neg (by omega)] at this; exact this
      · rw [if_pos (by omega)] at this; exact this
    | succ f ih =>
      intro a' w I2 hf h2 hV' hB hM hF hw hN
      obtain ⟨g1, g2, g3, g4⟩ := nz_ltr_1 hV' (by omega)
      have v' := hV'.1
      have e2 : ny_goa (nz_za a') (nz_zt a') 2 = a' 2 := g3 2 (by omega)
      have e4 : ny_goa (nz_za a') (nz_zt a') 4 = nz_nz (a' 4) := (g3 4 (by omega)).trans nz_au_eq
      refine s_Ba_timesByLot_35 ?_
      rw [hB.1.2, ny_le (by omega) (by omega)]
      refine ⟨fun q => absurd q (by omega), fun _ => s_Ba_nextZ_0 ?_⟩
      rw [nz_nz_e]
      refine q_Ba_actOf hB.1.1 hV' (nz_nz_lt _) ?_
      have g := nz_go (nz_z4V hV' (nz_nz (a' 4))) (act := nz_zt a') (by show nz_zt a' ≤ a' 0; exact nz_act_le a' _) (by show a' 1 < a' 2; omega)
      refine q_Ba_goBy (d := d) (a := nz_za a') nz_m28 (nz_Ba_4 hV' hB) (nz_Mo_4 hM) (nz_z4V hV' _) (by show nz_act a' (nz_nz (a' 4)) ≤ a' 0; exact nz_act_le a' _) fun I3 hF3 hM3 => ?_
      have := ih (ny_goa (nz_za a') (nz_zt a')) (w + ny_gow (nz_za a') (nz_zt a')) I3 (by omega) (by omega) g2 (nz_Ba_mv nz_m28 hF3 g.2.2.1 (nz_z4V hV' _) (nz_Ba_4 hV' hB)) hM3 (nz_Fr_t hF3 hF) (by omega) fun I' h3 => by
        have := hN I' h3
        rw [nz_ltr] at this
        rw [Nat.add_assoc]; exact this
      rw [g4, e4] at this
      rw [nI_add, ny_lit, nI_add]
      exact this
  have k11 : ∀ m k c z (I2 : ny_I), k + m = n → nz_fr 28 I2 I → c ≤ k → c + nz_tms a v m z = nz_tms a v n (a 4) → ny_g (d + 4) m_Ba_timesByLot 11 [(0, .ref 6), (1, .int (nI n)), (2, .int (nI v)), (3, .int (nI c)), (4, .int (nI z)), (5, .int (nI k))] [] Ln I2 (ny_r1 Ln Q) := by
    intro m
    induction m with
    | zero =>
      intro k c z I2 hk hF hc e
      rw [nz_tms, Nat.add_zero] at e
      refine s_Ba_timesByLot_11 ?_
      simp (disch := omega) only [ny_lit, nI_add, ny_mul, nI_clamp, ny_le, ny_lt, ny_eq, ny_div, ny_rem, ny_rem2, ny_inN]
      refine ⟨fun _ => ?_, fun q => absurd q (by omega)⟩
      rw [e]; exact h I2 hF
    | succ m ih =>
      intro k c z I2 hk hF hc e
      rw [nz_tms] at e
      have b5 := nz_tms_le (a := a) (v := v) m ((nz_ltr (a 2 - a 1) (ny_au a 4 z)).2 4)
      have hM2 : ny_Mo I2 7 a := nz_Mo_fr hF nz_m7 (by decide) nz_m28 hC.2.1
      have hB2 : ny_Ba I2 a := nz_Ba_mv nz_m28 hF (fun _ _ _ _ => rfl) hV hC.1
      refine s_Ba_timesByLot_11 ?_
      simp (disch := omega) only [ny_lit, nI_add, ny_mul, nI_clamp, ny_le, ny_lt, ny_eq, ny_div, ny_rem, ny_rem2, ny_inN]
      refine ⟨fun q => absurd q (by omega), fun _ => q_Ba_copyOfNow (d := d + 2) hM2 hV fun I3 hF3 hM3 => ⟨rfl, ?_⟩⟩
      have e7 : I3 7 2 = nI (a 1) := by rw [hF3.1 7 (by decide) (by decide) (by decide)]; exact hM2.1
      rw [e7]
      have := k35 k c z (a 2 - a 1) (ny_au a 4 z) 0 I3 (by show a 1 + (a 2 - a 1) = a 2; omega) rfl (nz_z4V hV z) (nz_Ba_4 hV (nz_Ba_mv nz_m28 hF3 (fun _ _ _ _ => rfl) hV hB2)) (nz_Mo_4 hM3) (nz_Fr_t hF3 hF) (by omega) fun I' h3 => by
        rw [Nat.zero_add]
        refine ih (k + 1) _ _ I' (by omega) h3 ?_ ?_
        · split <;> omega
        · omega
      exact this
  refine s_Ba_timesByLot_0 ?_
  rw [hC.2.2.1.2]
  exact k11 n 0 0 (a 4) I (by omega) ⟨fun _ _ _ _ => rfl, fun _ _ => rfl⟩ (Nat.le_refl _) (by omega)
theorem q_No_times {x y : Int32} (hC : ny_Cl I a) (hV : ny_V a) (h : ∀ I', nz_cf I' I a → Q (o_times x y a) I') : ny_C1 (d + 5) m_No_times [.ref 5, .int x, .int y] Ln I Q := by
  have no : o_times x y a = nI 4294967295 → Q (-1 : Int32) I := by
    intro e
    rw [ny_m1, ← e]; exact h I (nz_cf_r hC)
  refine s_No_times_0 (q_No_I 1 40 rfl rfl (by decide) (by decide) (fun n en hn1 hn ex => ⟨fun q => absurd q (by decide), fun _ => q_No_I 0 999 rfl rfl (by decide) (by decide) (fun v ev _ hv ey => ⟨fun _ => ?_, fun q => absurd q (by decide)⟩) (fun ev => ⟨fun q => absurd rfl q, fun _ => no (by simp only [o_times, en, ev])⟩)⟩) fun en => ⟨fun _ => no (by simp only [o_times, en]), fun q => absurd rfl q⟩)
  subst ex ey
  simp only [o_times, en, ev] at h
  exact q_Ba_timesByLot hC hV hn hv fun I' hF => h I' (nz_cf_28 hC hV hF)
end NZLO
