/-! both: a bell, what is forgotten, a change -/
def o_bell (a : ny_a) : Int32 × ny_a := if a 2 ≤ a 1 then (nI 4294967292, a) else (nI (ny_gow a (ny_rst a)), nz_nb a)
def o_forget (a : ny_a) : Int32 × ny_a := (nI (a 6), ny_au a 6 0)
def o_top (w : Nat) : Nat := if w = 1 then 99 else if w = 2 then 9 else if w = 3 then 5 else 1
def o_change (x y z : Int32) (a : ny_a) : Int32 × ny_a :=
  match nz_fg a x, nz_in 1 4 y with
  | some k, some w => match nz_in 0 (o_top w) z with
    | some v => (nI (a (8 + 5 * k + w)), ny_au a (8 + 5 * k + w) v)
    | none => o_no a
  | _, _ => o_no a
section NZOP
variable {d Ln : Nat} {I : ny_I} {Q : Int32 → ny_I → Prop} {Q0 : ny_I → Prop} {a : ny_a}
theorem q_Md_bell (ha : ny_Md I a) (hV : ny_V a) (h : ∀ I', nz_af 0 I' I (o_bell a).2 → Q (o_bell a).1 I') : ny_C1 (d + 6) m_Md_bell [.ref 102] Ln I Q := by
  refine s_Md_bell_0 (q_Md_isOver ha hV ?_)
  unfold o_bell at h
  by_cases c : a 2 ≤ a 1
  · rw [if_pos c] at h ⊢
    exact ⟨fun q => absurd q (by decide), fun _ => by rw [ny_m4]; exact h I (nz_af_r ha)⟩
  · rw [if_neg c] at h ⊢
    exact ⟨fun _ => q_Md_restAct ha hV (q_Md_goesWith (d := d + 1) ha hV (nz_rst_le a) fun I' h1 h2 => h I' ⟨h1, fun c x _ => h2 c x, fun j hj => absurd hj (by omega)⟩), fun q => absurd rfl q⟩
theorem nz_Cl_go {I' : ny_I} {act : Nat} (hC : ny_Cl I a) (hV : ny_V a) (hact : act ≤ a 0) (hb : a 1 < a 2) (hF : nz_fr 7 I' I) (hM : ny_Mo I' 7 (ny_goa a act)) : nz_cf (ny_up I' 6 9 (I' 6 9 + nI (ny_gow a act))) I (ny_goa a act) := by
  obtain ⟨g1, g2, g3, g4, g5⟩ := nz_go hV hact hb
  have e6 : I' 6 = I 6 := hF.1 6 (by decide) (by decide) (by decide)
  have hS : ny_Sm (ny_au (ny_goa a act) 3 (a 3)) a := fun j h1 h3 hk => by rw [nz_au_ne h3]; exact g3 j h1 h3 hk
  have hC2 : ny_Cl I' (ny_au (ny_goa a act) 3 (a 3)) := by
    refine ⟨nz_Ba_mv nz_m7 hF hS hV hC.1, ?_, ⟨?_, ?_⟩, ?_⟩
    · obtain ⟨m1, m2, m, m3, m4, m5⟩ := hM
      refine ⟨by rw [nz_au_ne (by decide)]; exact m1, fun k hk => ?_, m, m3, m4, fun k hk => ?_⟩
      · rw [nz_au_ne (by decide)] at hk
        rw [nz_au_ne (by omega)]; exact m2 k hk
      · rw [nz_au_ne (by decide), nz_au_ne (by omega)]; exact m5 k hk
    · rw [e6, nz_au_eq]; exact hC.2.2.1.1
    · rw [e6, hS 4 (by decide) (by decide) (fun k hk => by omega)]; exact hC.2.2.1.2
    · have e : ∀ j, 38 ≤ j ∨ j = 6 → ny_au (ny_goa a act) 3 (a 3) j = a j := fun j hj => hS j (by omega) (by omega) fun k hk => by omega
      have r := hC.2.2.2
      refine ⟨?_, fun r1 hr => ?_⟩
      · rw [hF.1 23 (by decide) (by decide) (by decide), e 6 (by omega)]; exact r.1
      · rw [e 6 (by omega)] at hr
        rw [hF.1 24 (by decide) (by decide) (by decide), hF.1 25 (by decide) (by decide) (by decide), hF.1 26 (by decide) (by decide) (by decide), hF.1 27 (by decide) (by decide) (by decide), e _ (by omega), e _ (by omega), e _ (by omega), e _ (by omega)]
        exact r.2 r1 hr
  have hV2 : ny_V (ny_au (ny_goa a act) 3 (a 3)) := nz_au_V g2 (by omega)
  have := nz_Cl_put (o := 6) (p := 9) (i := 3) (v := a 3 + ny_gow a act) (by omega) hV2 hC2
  rw [nz_au_au, nz_au_self g5] at this
  refine ⟨?_, fun q hq => ?_⟩
  · rw [e6, hC.2.2.1.1, nI_add]; exact this
  · rw [ny_upne _ (by omega)]; exact hF.1 q (by omega) (by omega) (by omega)
theorem q_No_goOn {act : Nat} (hC : ny_Cl I a) (hV : ny_V a) (hact : act ≤ a 0) (hb : a 1 < a 2) (h : ∀ I', nz_cf I' I (ny_goa a act) → Q (nI (ny_gow a act)) I') : ny_C1 (d + 4) m_No_goOn [.ref 5, .int (nI act)] Ln I Q :=
  s_No_goOn_0 (q_Ba_goBy nz_m7 hC.1 hC.2.1 hV hact fun I' hF hM => h _ (nz_Cl_go hC hV hact hb hF hM))
theorem nz_cf_t {I2 I1 : ny_I} {b : ny_a} (h2 : nz_cf I2 I1 b) (h1 : nz_cf I1 I a) : nz_cf I2 I b := ⟨h2.1, fun q hq => (h2.2 q hq).trans (h1.2 q hq)⟩
theorem q_No_bell (hC : ny_Cl I a) (hV : ny_V a) (h : ∀ I', nz_cf I' I (o_bell a).2 → Q (o_bell a).1 I') : ny_C1 (d + 5) m_No_bell [.ref 5] Ln I Q := by
  refine s_No_bell_0 (q_Ba_isOver nz_m7 hC.1 hC.2.1 hV ?_)
  unfold o_bell at h
  by_cases c : a 2 ≤ a 1
  · rw [if_pos c] at h ⊢
    exact ⟨fun q => absurd q (by decide), fun _ => by rw [ny_m4]; exact h I (nz_cf_r hC)⟩
  · rw [if_neg c] at h ⊢
    refine ⟨fun _ => q_Ba_restAct nz_m7 hC.1 hC.2.1 hV fun I1 hF => ?_, fun q => absurd rfl q⟩
    have hC1 := nz_cf_s hC hV hF
    exact q_No_goOn hC1.1 hV (nz_rst_le a) (by omega) fun I2 h2 => h I2 (nz_cf_t h2 hC1)
theorem q_Md_forget (ha : ny_Md I a) (h : ∀ I', nz_af 0 I' I (o_forget a).2 → Q (o_forget a).1 I') : ny_C1 (d + 1) m_Md_forget [.ref 102] Ln I Q :=
  s_Md_forget_0 (q_Md_becomes ha (by decide) h)
theorem q_No_forget (hC : ny_Cl I a) (h : ∀ I', nz_cf I' I (o_forget a).2 → Q (o_forget a).1 I') : ny_C1 d m_No_forget [.ref 5] Ln I Q := by
  refine s_No_forget_0 ?_
  replace h : ∀ I', nz_cf I' I (ny_au a 6 0) → Q (nI (a 6)) I' := h
  obtain ⟨hB, ⟨m1, m2, m, m3, m4, m5⟩, ⟨s1, s2⟩, r1, r2⟩ := hC
  rw [r1]
  have e : ∀ q, q ≠ 23 → ny_up I 23 0 (0 : Int32) q = I q := fun q hq => ny_upne _ hq _ _
  have ea : ∀ j, j ≠ 6 → ny_au a 6 0 j = a j := fun j hj => nz_au_ne hj
  refine h _ ⟨⟨?_, ?_, ?_, ?_, fun r hr => absurd hr (by rw [nz_au_eq]; omega)⟩, fun q hq => e q (by omega)⟩
  · obtain ⟨⟨h1, h2⟩, h3, h4, h5, ⟨h6, h7⟩, h8, h9, h10⟩ := hB
    unfold ny_Ba
    simp (disch := omega) only [e, ea]
    refine ⟨⟨h1, h2⟩, h3, h4, h5, ⟨h6, h7⟩, h8, fun i hi => ?_, h10⟩
    have := h9 i hi
    exact ⟨this.1, fun q => ⟨nz_vr_mv (fun j _ => by rw [e 22 (by decide)]) (this.2 q).1, nz_vr_mv (fun j _ => by rw [e 22 (by decide)]) (this.2 q).2⟩⟩
  · unfold ny_Mo
    simp (disch := omega) only [e, ea]
    exact ⟨m1, m2, m, m3, m4, m5⟩
  · simp (disch := omega) only [e, ea]; exact ⟨s1, s2⟩
  · rw [ny_upeq, nz_au_eq]; unfold upd; rw [if_pos rfl]; rfl
theorem q_Md_change {x y z : Int32} (ha : ny_Md I a) (hV : ny_V a) (h : ∀ I', nz_af 0 I' I (o_change x y z a).2 → Q (o_change x y z a).1 I') : ny_C1 (d + 1) m_Md_change [.ref 102, .int x, .int y, .int z] Ln I Q := by
  have V1 := hV.1; have V2 := hV.2.1; have V3 := hV.2.2.1; have V4 := hV.2.2.2.1; have V5 := hV.2.2.2.2.1; obtain ⟨v0, v1, v2, v3, v5, v6, v7⟩ := V1
  have no : (o_change x y z a) = o_no a → ny_g (d + 1) m_Md_change 39 [(0, .ref 102), (1, .int x), (2, .int y), (3, .int z)] [.int (0 : Int32)] Ln I (ny_r1 Ln Q) := by
    intro e
    rw [e] at h
    refine s_Md_change_39 ⟨fun _ => ?_, fun q => absurd rfl q⟩
    rw [ny_m1]; exact h I (nz_af_r ha)
  refine s_Md_change_0 (q_Md_O ha hV (fun k ek hk ex => ⟨fun q => absurd q (by decide), fun _ => q_Md_I 1 4 rfl rfl (by decide) (by decide) (fun w ew hw1 hw ey => ⟨fun q => absurd q (by decide), fun _ => ?_⟩) (fun ew => ⟨fun _ => no ?_, fun q => absurd rfl q⟩)⟩) (fun ek => ⟨fun _ => no ?_, fun q => absurd rfl q⟩))
  · have gr : ∀ (Q1 : Int32 → ny_I → Prop), Q1 (nI (o_top w)) I → ny_C1 d m_Md_greatestOf [.int y] Ln I Q1 := by
      intro Q1 hq
      subst ey
      refine s_Md_greatestOf_0 ?_
      unfold o_top at hq
      simp (disch := omega) only [ny_lit, nI_add, ny_mul, nI_clamp, ny_le, ny_lt, ny_eq, ny_div, ny_rem, ny_rem2, ny_inN]
      refine ⟨fun c1 => ⟨fun c2 => ⟨fun c3 => ?_, fun c3 => ?_⟩, fun c2 => ?_⟩, fun c1 => ?_⟩
      · rw [if_neg c1, if_neg c2, if_neg c3] at hq; exact hq
      · rw [if_neg c1, if_neg c2, if_pos c3] at hq; exact hq
      · rw [if_neg c1, if_pos c2] at hq; exact hq
      · rw [if_pos c1] at hq; exact hq
    have ht : o_top w ≤ 99 := by unfold o_top; split; · omega
                                 split; · omega
                                 split <;> omega
    refine gr _ (q_Md_I 0 (o_top w) rfl (nI_l (by omega)) (by decide) (by omega) (fun v ev _ hv ez => ⟨fun q => absurd q (by decide), fun _ => ?_⟩) (fun ev => ⟨fun _ => no ?_, fun q => absurd rfl q⟩))
    · simp only [o_change, ek, ew, ev] at h
      refine s_Md_change_39 ⟨fun q => absurd q (by decide), fun _ => ?_⟩
      subst ex ey ez
      rw [ny_lit, ny_lit, ny_mul, nI_add, nI_add]
      exact q_Md_becomes ha (by omega) h
    · simp only [o_change, ek, ew, ev]
  · simp only [o_change, ek, ew]
  · simp only [o_change, ek]
end NZOP
