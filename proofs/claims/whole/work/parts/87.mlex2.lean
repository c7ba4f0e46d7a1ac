/-! the model: words -/
def nt_nF (I' I : ny_I) : Prop := (∀ c, c ≠ 102 → I' c = I c) ∧ ∀ j, j ≠ 6 → j ≠ 7 → j ≠ 8 → j ≠ 9 → j ≠ 10 → I' 102 j = I 102 j
theorem nt_nF_r (I : ny_I) : nt_nF I I := ⟨fun _ _ => rfl, fun _ _ _ _ _ _ => rfl⟩
theorem nt_nF_t {I1 I2 I3 : ny_I} (h : nt_nF I1 I2) (h2 : nt_nF I2 I3) : nt_nF I1 I3 := ⟨fun c x => (h.1 c x).trans (h2.1 c x), fun j x y z w u => (h.2 j x y z w u).trans (h2.2 j x y z w u)⟩
theorem nt_nF_m {I' I : ny_I} (h : nt_mF I' I) : nt_nF I' I := ⟨h.1, fun j x y z w _ => h.2 j x y z w⟩
theorem nt_M_n {I' I : ny_I} {T : Nat} {b : Nat → Nat} (h : nt_nF I' I) (hM : nt_M I T b) : nt_M I' T b := ⟨by rw [h.2 5 (by decide) (by decide) (by decide) (by decide) (by decide)]; exact hM.1, fun j hj => by rw [h.1 106 (by decide)]; exact hM.2 j hj⟩
theorem nt_tk {T : Nat} {b : Nat → Nat} {p : Nat} {w : List Nat} {k : Nat} (hk : nt_ix w = k) (h18 : k < 18) (hm : nt_wds[k]? = some w) : (nt_ki T b p = 1 ∧ nt_wd T b p = w) ↔ nt_ty T b p = k := by
  obtain ⟨k0, k00, k1, k2, k3⟩ := nt_ki_p T b p
  constructor
  · intro ⟨h1, h2⟩
    obtain ⟨g1, g2⟩ := k1.mp h1
    unfold nt_ty
    rw [if_pos g1, if_pos g2, h2, hk]
  · intro h
    obtain ⟨g1, g2, g3, g4⟩ := nt_ty_w (T := T) (b := b) (p := p) (by omega)
    refine ⟨k1.mpr ⟨g1, g2⟩, ?_⟩
    have := nt_ix_e _ (g3.trans h) h18
    rw [hm] at this
    exact (Option.some.inj this).symm
theorem nt_sgt {T : Nat} {b : Nat → Nat} {p c : Nat} (hc : nt_sg c) : (nt_ki T b p = 3 ∧ b p = c) ↔ nt_ty T b p = c := by
  obtain ⟨k0, k00, k1, k2, k3⟩ := nt_ki_p T b p
  have hc2 : 40 ≤ c := by unfold nt_sg at hc; omega
  constructor
  · intro ⟨h1, h2⟩
    obtain ⟨g1, g2, g3⟩ := k3.mp h1
    unfold nt_ty
    rw [if_pos g1, if_neg (by rw [g2]; decide), if_neg (by rw [g3]; decide), h2, if_pos hc]
  · intro h
    have hT := nt_ty_T (T := T) (b := b) (p := p) (by omega)
    have := nt_ixf_le nt_wds 0 (nt_wd T b p) (by decide)
    unfold nt_ty nt_ix at h
    rw [if_pos hT] at h
    by_cases hl : nt_la b p = true
    · rw [if_pos hl] at h; omega
    · rw [if_neg hl] at h
      by_cases hd : nt_di b p = true
      · rw [if_pos hd] at h
        split at h <;> omega
      · rw [if_neg hd] at h
        refine ⟨k3.mpr ⟨hT, Bool.eq_false_iff.mpr hl, Bool.eq_false_iff.mpr hd⟩, ?_⟩
        split at h
        · exact h
        · omega
theorem nt_wdn {T : Nat} {b : Nat → Nat} {p : Nat} (n : Nat) (h : nt_en T b p - p = n) : nt_wd T b p = (List.range n).map fun k => b (p + k) := by unfold nt_wd; rw [h]
section NZMW
variable {d Ln : Nat} {I : ny_I} {Q : Int32 → ny_I → Prop} {Q0 : ny_I → Prop} {T : Nat} {b : Nat → Nat} {p : Nat}
theorem q_Md_needs {x : Int32} {w : Nat} (hM : nt_M I T b) (hV : nt_V T b) (ht : nt_mt I T b p) (hw : I 102 10 = nI w) (h1 : w ≤ 1) (hW : (w = 1 ∨ x = 0) → ∀ I', nt_nF I' I → nt_mt I' T b p → I' 102 10 = nI 1 → Q0 I') (hN : w = 0 → ¬ x = 0 → ∀ I', nt_nF I' I → nt_mt I' T b (nt_nx T b p) → I' 102 10 = nI 0 → Q0 I') : ny_C0 (d + 2) m_Md_needs [.ref 102, .int x] Ln I Q0 := by
  have uF : ∀ y, nt_nF (ny_up I 102 10 y) I := fun y => ⟨fun c hc => ny_upne _ hc _ _, fun i a b c e f => by rw [ny_uprd, if_neg (by omega)]⟩
  have ut : ∀ y, nt_mt (ny_up I 102 10 y) T b p := by
    intro y
    obtain ⟨t1, t2, t3, t4, vv, t5, t6, t7⟩ := ht
    refine ⟨t1, ?_, ?_, ?_, vv, ?_, t6, t7⟩
    · rw [ny_uprd, if_neg (by omega)]; exact t2
    · rw [ny_uprd, if_neg (by omega)]; exact t3
    · rw [ny_uprd, if_neg (by omega)]; exact t4
    · rw [ny_uprd, if_neg (by omega)]; exact t5
  have ue : ∀ y, ny_up I 102 10 y 102 10 = y := fun y => by rw [ny_uprd, if_pos ⟨rfl, rfl⟩]
  have bad : (w = 1 ∨ x = 0) → ny_g (d + 2) m_Md_needs 17 [(0, .ref 102)] [.int 1, .ref 102] Ln I (ny_r0 Ln Q0) := by
    intro hc
    refine s_Md_needs_17 ⟨Or.inr rfl, ?_⟩
    rw [ue]
    exact ⟨fun _ => hW hc _ (uF _) (ut _) (ue _), fun q => absurd q (by decide)⟩
  refine s_Md_needs_0 ?_
  have e0 : nI w = 0 ↔ w = 0 := ny_eq (b := 0) (by omega) (by decide)
  rw [hw, e0]
  refine ⟨fun c => bad (Or.inl (by omega)), fun c => ⟨fun c2 => ?_, fun c2 => bad (Or.inr c2)⟩⟩
  refine s_Md_needs_17 ⟨Or.inl rfl, ?_⟩
  rw [ue]
  refine ⟨fun q => absurd rfl q, fun _ => ?_⟩
  have e8 : ny_up I 102 10 0 102 8 = nI (nt_en T b p) := (ut 0).2.2.1
  have hp := ht.1
  refine q_Md_nextToken (nt_M_n (uF _) hM) hV ((nt_en_p (T := T) (b := b) (p := p)).2.1 hp) e8 fun I' F1 t1 => ?_
  refine hN c c2 I' (nt_nF_t (nt_nF_m F1) (uF _)) t1 ?_
  rw [F1.2 10 (by decide) (by decide) (by decide) (by decide)]; exact ue 0
theorem q_Md_isByte {c : Nat} (hM : nt_M I T b) (hV : nt_V T b) (ht : nt_mt I T b p) (hc : nt_sg c) (h : Q (if nt_ty T b p = c then nI 1 else nI 0) I) : ny_C1 (d + 1) m_Md_isByte [.ref 102, .int (nI c)] Ln I Q := by
  have v := hV.1
  obtain ⟨k0, k00, k1, k2, k3⟩ := nt_ki_p T b p
  obtain ⟨t1, t2, t3, t4, _⟩ := ht
  have e3 : nI (nt_ki T b p) = 3 ↔ nt_ki T b p = 3 := ny_eq (b := 3) (by omega) (by decide)
  have hs := nt_sgt (T := T) (b := b) (p := p) hc
  have hc2 : c < 63 := by unfold nt_sg at hc; omega
  refine s_Md_isByte_0 ?_
  rw [t4, e3]
  refine ⟨fun q => ?_, fun q => ?_⟩
  · rw [if_neg (fun z => q (hs.mpr z).1)] at h; exact h
  · have hT := (k3.mp q).1
    rw [t2]
    refine q_Md_byteAt hM hV (by omega) ?_
    rw [nt_bt_l hT, ny_eq (by have := hV.2 p hT; omega) (by omega)]
    refine ⟨fun z => ?_, fun z => ?_⟩
    · rw [if_neg (fun y => z (hs.mpr y).2)] at h; exact h
    · rw [if_pos (hs.mp ⟨q, z⟩)] at h; exact h
theorem q_Md_isName {n x y z w : Nat} (hM : nt_M I T b) (hV : nt_V T b) (ht : nt_mt I T b p) (hn : 3 ≤ n ∧ n < 256) (hx : x < 256 ∧ y < 256 ∧ z < 256 ∧ w < 256) (h0 : ¬ (nt_ki T b p = 1 ∧ nt_en T b p - p = n ∧ b p = x ∧ b (p + 1) = y ∧ b (p + 2) = z ∧ b (nt_en T b p - 1) = w) → Q (nI 0) I) (h1 : nt_ki T b p = 1 → nt_en T b p - p = n → b p = x → b (p + 1) = y → b (p + 2) = z → b (nt_en T b p - 1) = w → nt_en T b p ≤ T → Q (nI 1) I) : ny_C1 (d + 1) m_Md_isName [.ref 102, .int (nI n), .int (nI x), .int (nI y), .int (nI z), .int (nI w)] Ln I Q := by
  have v := hV.1
  obtain ⟨k0, k00, k1, k2, k3⟩ := nt_ki_p T b p
  obtain ⟨t1, t2, t3, t4, _⟩ := ht
  have ep := nt_en_p (T := T) (b := b) (p := p)
  have ep2 := ep.2.1 t1
  have e3 : nI (nt_ki T b p) = 1 ↔ nt_ki T b p = 1 := ny_eq (b := 1) (by omega) (by decide)
  refine s_Md_isName_0 ?_
  rw [t4, e3, t3, t2, pk_sub ep.1, ny_eq (by omega) (by omega)]
  refine ⟨fun q => h0 fun z => q z.1, fun q => ⟨fun q2 => h0 fun z => q2 z.2.1, fun q2 => ?_⟩⟩
  refine q_Md_byteAt hM hV (by omega) ?_
  rw [nt_bt_l (by omega), ny_eq (by have := hV.2 p (by omega); omega) (by omega)]
  refine ⟨fun q3 => h0 fun z => q3 z.2.2.1, fun q3 => ?_⟩
  rw [t2, nI_1]
  refine q_Md_byteAt hM hV (by omega) ?_
  rw [nt_bt_l (by omega), ny_eq (by have := hV.2 (p + 1) (by omega); omega) (by omega)]
  refine ⟨fun q4 => h0 fun z => q4 z.2.2.2.1, fun q4 => ?_⟩
  rw [t2, show nI p + 2 = nI (p + 2) from nI_add p 2]
  refine q_Md_byteAt hM hV (by omega) ?_
  rw [nt_bt_l (by omega), ny_eq (by have := hV.2 (p + 2) (by omega); omega) (by omega)]
  refine ⟨fun q5 => h0 fun z => q5 z.2.2.2.2.1, fun q5 => ?_⟩
  rw [t3, show nI (nt_en T b p) - 1 = nI (nt_en T b p - 1) from pk_sub (b := 1) (by omega)]
  refine q_Md_byteAt hM hV (by omega) ?_
  rw [nt_bt_l (by omega), ny_eq (by have := hV.2 (nt_en T b p - 1) (by omega); omega) (by omega)]
  exact ⟨fun q6 => h0 fun z => q6 z.2.2.2.2.2, fun q6 => h1 q q2 q3 q4 q5 q6 ep2⟩
theorem q_Md_isSame {i x y z : Nat} (hM : nt_M I T b) (hV : nt_V T b) (ht : nt_mt I T b p) (hi : p + i + 2 < T) (hx : x < 256 ∧ y < 256 ∧ z < 256) (h0 : ¬ (b (p + i) = x ∧ b (p + i + 1) = y ∧ b (p + i + 2) = z) → Q (nI 0) I) (h1 : b (p + i) = x → b (p + i + 1) = y → b (p + i + 2) = z → Q (nI 1) I) : ny_C1 (d + 1) m_Md_isSame [.ref 102, .int (nI i), .int (nI x), .int (nI y), .int (nI z)] Ln I Q := by
  have v := hV.1
  obtain ⟨t1, t2, t3, t4, _⟩ := ht
  refine s_Md_isSame_0 ?_
  rw [t2, nI_add]
  refine q_Md_byteAt hM hV (by omega) ?_
  rw [nt_bt_l (by omega), ny_eq (by have := hV.2 (p + i) (by omega); omega) (by omega)]
  refine ⟨fun q3 => h0 fun z => q3 z.1, fun q3 => ?_⟩
  rw [t2, nI_add, nI_1]
  refine q_Md_byteAt hM hV (by omega) ?_
  rw [nt_bt_l (by omega), ny_eq (by have := hV.2 (p + i + 1) (by omega); omega) (by omega)]
  refine ⟨fun q4 => h0 fun z => q4 z.2.1, fun q4 => ?_⟩
  rw [t2, nI_add, show nI (p + i) + 2 = nI (p + i + 2) from nI_add (p + i) 2]
  refine q_Md_byteAt hM hV (by omega) ?_
  rw [nt_bt_l (by omega), ny_eq (by have := hV.2 (p + i + 2) (by omega); omega) (by omega)]
  exact ⟨fun q5 => h0 fun z => q5 z.2.2, fun q5 => h1 q3 q4 q5⟩
/-- words of three letters, of four, of five, of six, of seven -/
theorem nt_q3 {x y z k : Nat} (hM : nt_M I T b) (hV : nt_V T b) (ht : nt_mt I T b p) (hx : x < 256 ∧ y < 256 ∧ z < 256) (hk : nt_ix [x, y, z] = k) (h18 : k < 18) (hm : nt_wds[k]? = some [x, y, z]) (h0 : ¬ nt_ty T b p = k → Q (nI 0) I) (h1 : nt_ty T b p = k → Q (nI 1) I) : ny_C1 (d + 1) m_Md_isName [.ref 102, .int (nI 3), .int (nI x), .int (nI y), .int (nI z), .int (nI z)] Ln I Q := by
  have hi := nt_tk (T := T) (b := b) (p := p) hk h18 hm
  refine q_Md_isName hM hV ht (by omega) (by omega) (fun c => h0 fun e => c ?_) fun c1 c2 c3 c4 c5 c6 _ => h1 (hi.mp ⟨c1, ?_⟩)
  · obtain ⟨g1, g2⟩ := hi.mpr e
    have hl := nt_wd_len (T := T) (b := b) (p := p)
    rw [g2] at hl
    have hl : nt_en T b p - p = 3 := hl.symm
    rw [nt_wdn 3 hl] at g2
    have g2 : [b p, b (p + 1), b (p + 2)] = [x, y, z] := g2
    injection g2 with e1 g2; injection g2 with e2 g2; injection g2 with e3 g2
    exact ⟨g1, hl, e1, e2, e3, by rw [show nt_en T b p - 1 = p + 2 by omega]; exact e3⟩
  · rw [nt_wdn 3 c2]
    show [b p, b (p + 1), b (p + 2)] = _
    rw [c3, c4, c5]
theorem nt_q4 {x y z u k : Nat} (hM : nt_M I T b) (hV : nt_V T b) (ht : nt_mt I T b p) (hx : x < 256 ∧ y < 256 ∧ z < 256 ∧ u < 256) (hk : nt_ix [x, y, z, u] = k) (h18 : k < 18) (hm : nt_wds[k]? = some [x, y, z, u]) (h0 : ¬ nt_ty T b p = k → Q (nI 0) I) (h1 : nt_ty T b p = k → Q (nI 1) I) : ny_C1 (d + 1) m_Md_isName [.ref 102, .int (nI 4), .int (nI x), .int (nI y), .int (nI z), .int (nI u)] Ln I Q := by
  have hi := nt_tk (T := T) (b := b) (p := p) hk h18 hm
  refine q_Md_isName hM hV ht (by omega) (by omega) (fun c => h0 fun e => c ?_) fun c1 c2 c3 c4 c5 c6 _ => h1 (hi.mp ⟨c1, ?_⟩)
  · obtain ⟨g1, g2⟩ := hi.mpr e
    have hl := nt_wd_len (T := T) (b := b) (p := p)
    rw [g2] at hl
    have hl : nt_en T b p - p = 4 := hl.symm
    rw [nt_wdn 4 hl] at g2
    have g2 : [b p, b (p + 1), b (p + 2), b (p + 3)] = [x, y, z, u] := g2
    injection g2 with e1 g2; injection g2 with e2 g2; injection g2 with e3 g2; injection g2 with e4 g2
    exact ⟨g1, hl, e1, e2, e3, by rw [show nt_en T b p - 1 = p + 3 by omega]; exact e4⟩
  · rw [nt_wdn 4 c2]
    show [b p, b (p + 1), b (p + 2), b (p + 3)] = _
    rw [show nt_en T b p - 1 = p + 3 by omega] at c6
    rw [c3, c4, c5, c6]
theorem nt_q5 {x y z u w k : Nat} {A B : ny_I → Prop} (hM : nt_M I T b) (hV : nt_V T b) (ht : nt_mt I T b p) (hx : x < 256 ∧ y < 256 ∧ z < 256 ∧ u < 256 ∧ w < 256) (hk : nt_ix [x, y, z, u, w] = k) (h18 : k < 18) (hm : nt_wds[k]? = some [x, y, z, u, w]) (h0 : ¬ nt_ty T b p = k → A I) (h1 : nt_ty T b p = k → B I) : ny_C1 (d + 1) m_Md_isName [.ref 102, .int (nI 5), .int (nI x), .int (nI y), .int (nI z), .int (nI w)] Ln I fun r4 I3 => (r4 = 0 → A I3) ∧ (¬ r4 = 0 → ny_C1 (d + 1) m_Md_byteAt [.ref 102, .int (I3 102 7 + 3)] Ln I3 fun r6 I5 => (¬ r6 = nI u → A I5) ∧ (r6 = nI u → B I5)) := by
  have v := hV.1
  have hi := nt_tk (T := T) (b := b) (p := p) hk h18 hm
  have t2 := ht.2.1
  have key : nt_ty T b p = k → nt_ki T b p = 1 ∧ nt_en T b p - p = 5 ∧ b p = x ∧ b (p + 1) = y ∧ b (p + 2) = z ∧ b (nt_en T b p - 1) = w ∧ b (p + 3) = u := by
    intro e
    obtain ⟨g1, g2⟩ := hi.mpr e
    have hl := nt_wd_len (T := T) (b := b) (p := p)
    rw [g2] at hl
    have hl : nt_en T b p - p = 5 := hl.symm
    rw [nt_wdn 5 hl] at g2
    have g2 : [b p, b (p + 1), b (p + 2), b (p + 3), b (p + 4)] = [x, y, z, u, w] := g2
    injection g2 with e1 g2; injection g2 with e2 g2; injection g2 with e3 g2; injection g2 with e4 g2; injection g2 with e5 g2
    exact ⟨g1, hl, e1, e2, e3, by rw [show nt_en T b p - 1 = p + 4 by omega]; exact e5, e4⟩
  refine q_Md_isName hM hV ht (by omega) (by omega) (fun c => ⟨fun _ => h0 fun e => c ?_, fun q => absurd rfl q⟩) fun c1 c2 c3 c4 c5 c6 c7 => ⟨fun q => absurd q (by decide), fun _ => ?_⟩
  · obtain ⟨g1, g2, g3, g4, g5, g6, _⟩ := key e
    exact ⟨g1, g2, g3, g4, g5, g6⟩
  · rw [t2, show nI p + 3 = nI (p + 3) from nI_add p 3]
    refine q_Md_byteAt hM hV (by omega) ?_
    rw [nt_bt_l (by omega), ny_eq (by have := hV.2 (p + 3) (by omega); omega) (by omega)]
    refine ⟨fun c => h0 fun e => c (key e).2.2.2.2.2.2, fun c => h1 (hi.mp ⟨c1, ?_⟩)⟩
    rw [nt_wdn 5 c2]
    show [b p, b (p + 1), b (p + 2), b (p + 3), b (p + 4)] = _
    rw [show nt_en T b p - 1 = p + 4 by omega] at c6
    rw [c3, c4, c5, c6, c]
theorem nt_q6 {x y z u w t k : Nat} {A B : ny_I → Prop} (hM : nt_M I T b) (hV : nt_V T b) (ht : nt_mt I T b p) (hx : x < 256 ∧ y < 256 ∧ z < 256 ∧ u < 256 ∧ w < 256 ∧ t < 256) (hk : nt_ix [x, y, z, u, w, t] = k) (h18 : k < 18) (hm : nt_wds[k]? = some [x, y, z, u, w, t]) (h0 : ¬ nt_ty T b p = k → A I) (h1 : nt_ty T b p = k → B I) : ny_C1 (d + 1) m_Md_isName [.ref 102, .int (nI 6), .int (nI x), .int (nI y), .int (nI z), .int (nI t)] Ln I fun r4 I3 => (r4 = 0 → A I3) ∧ (¬ r4 = 0 → ny_C1 (d + 1) m_Md_isSame [.ref 102, .int (nI 3), .int (nI u), .int (nI w), .int (nI t)] Ln I3 fun r6 I5 => (r6 = 0 → A I5) ∧ (¬ r6 = 0 → B I5)) := by
  have v := hV.1
  have hi := nt_tk (T := T) (b := b) (p := p) hk h18 hm
  have key : nt_ty T b p = k → nt_ki T b p = 1 ∧ nt_en T b p - p = 6 ∧ b p = x ∧ b (p + 1) = y ∧ b (p + 2) = z ∧ b (p + 3) = u ∧ b (p + 4) = w ∧ b (p + 5) = t := by
    intro e
    obtain ⟨g1, g2⟩ := hi.mpr e
    have hl := nt_wd_len (T := T) (b := b) (p := p)
    rw [g2] at hl
    have hl : nt_en T b p - p = 6 := hl.symm
    rw [nt_wdn 6 hl] at g2
    have g2 : [b p, b (p + 1), b (p + 2), b (p + 3), b (p + 4), b (p + 5)] = [x, y, z, u, w, t] := g2
    injection g2 with e1 g2; injection g2 with e2 g2; injection g2 with e3 g2; injection g2 with e4 g2; injection g2 with e5 g2; injection g2 with e6 g2
    exact ⟨g1, hl, e1, e2, e3, e4, e5, e6⟩
  refine q_Md_isName hM hV ht (by omega) (by omega) (fun c => ⟨fun _ => h0 fun e => c ?_, fun q => absurd rfl q⟩) fun c1 c2 c3 c4 c5 c6 c7 => ⟨fun q => absurd q (by decide), fun _ => ?_⟩
  · obtain ⟨g1, g2, g3, g4, g5, g6, g7, g8⟩ := key e
    exact ⟨g1, g2, g3, g4, g5, by rw [show nt_en T b p - 1 = p + 5 by omega]; exact g8⟩
  · refine q_Md_isSame hM hV ht (by omega) (by omega) (fun c => ⟨fun _ => h0 fun e => c ?_, fun q => absurd rfl q⟩) fun d1 d2 d3 => ⟨fun q => absurd q (by decide), fun _ => h1 (hi.mp ⟨c1, ?_⟩)⟩
    · obtain ⟨g1, g2, g3, g4, g5, g6, g7, g8⟩ := key e
      exact ⟨g6, g7, g8⟩
    · rw [nt_wdn 6 c2]
      show [b p, b (p + 1), b (p + 2), b (p + 3), b (p + 3 + 1), b (p + 3 + 2)] = _
      rw [c3, c4, c5, d1, d2, d3]
theorem nt_q6n {x y z u w t k : Nat} {A B : ny_I → Prop} (hM : nt_M I T b) (hV : nt_V T b) (ht : nt_mt I T b p) (hx : x < 256 ∧ y < 256 ∧ z < 256 ∧ u < 256 ∧ w < 256 ∧ t < 256) (hk : nt_ix [x, y, z, u, w, t] = k) (h18 : k < 18) (hm : nt_wds[k]? = some [x, y, z, u, w, t]) (h0 : ¬ nt_ty T b p = k → A I) (h1 : nt_ty T b p = k → B I) : ny_C1 (d + 1) m_Md_isName [.ref 102, .int (nI 6), .int (nI x), .int (nI y), .int (nI z), .int (nI t)] Ln I fun r4 I3 => (r4 = 0 → A I3) ∧ (¬ r4 = 0 → ny_C1 (d + 1) m_Md_isSame [.ref 102, .int (nI 2), .int (nI z), .int (nI u), .int (nI w)] Ln I3 fun r6 I5 => (r6 = 0 → A I5) ∧ (¬ r6 = 0 → B I5)) := by
  have v := hV.1
  have hi := nt_tk (T := T) (b := b) (p := p) hk h18 hm
  have key : nt_ty T b p = k → nt_ki T b p = 1 ∧ nt_en T b p - p = 6 ∧ b p = x ∧ b (p + 1) = y ∧ b (p + 2) = z ∧ b (p + 3) = u ∧ b (p + 4) = w ∧ b (p + 5) = t := by
    intro e
    obtain ⟨g1, g2⟩ := hi.mpr e
    have hl := nt_wd_len (T := T) (b := b) (p := p)
    rw [g2] at hl
    have hl : nt_en T b p - p = 6 := hl.symm
    rw [nt_wdn 6 hl] at g2
    have g2 : [b p, b (p + 1), b (p + 2), b (p + 3), b (p + 4), b (p + 5)] = [x, y, z, u, w, t] := g2
    injection g2 with e1 g2; injection g2 with e2 g2; injection g2 with e3 g2; injection g2 with e4 g2; injection g2 with e5 g2; injection g2 with e6 g2
    exact ⟨g1, hl, e1, e2, e3, e4, e5, e6⟩
  refine q_Md_isName hM hV ht (by omega) (by omega) (fun c => ⟨fun _ => h0 fun e => c ?_, fun q => absurd rfl q⟩) fun c1 c2 c3 c4 c5 c6 c7 => ⟨fun q => absurd q (by decide), fun _ => ?_⟩
  · obtain ⟨g1, g2, g3, g4, g5, g6, g7, g8⟩ := key e
    exact ⟨g1, g2, g3, g4, g5, by rw [show nt_en T b p - 1 = p + 5 by omega]; exact g8⟩
  · refine q_Md_isSame hM hV ht (by omega) (by omega) (fun c => ⟨fun _ => h0 fun e => c ?_, fun q => absurd rfl q⟩) fun d1 d2 d3 => ⟨fun q => absurd q (by decide), fun _ => h1 (hi.mp ⟨c1, ?_⟩)⟩
    · obtain ⟨g1, g2, g3, g4, g5, g6, g7, g8⟩ := key e
      exact ⟨g5, g6, g7⟩
    · rw [nt_wdn 6 c2]
      show [b p, b (p + 1), b (p + 2), b (p + 2 + 1), b (p + 2 + 2), b (p + 5)] = _
      rw [show nt_en T b p - 1 = p + 5 by omega] at c6
      rw [c3, c4, c5, d2, d3, c6]
theorem nt_q7 {x y z u w t s k : Nat} {A B : ny_I → Prop} (hM : nt_M I T b) (hV : nt_V T b) (ht : nt_mt I T b p) (hx : x < 256 ∧ y < 256 ∧ z < 256 ∧ u < 256 ∧ w < 256 ∧ t < 256 ∧ s < 256) (hk : nt_ix [x, y, z, u, w, t, s] = k) (h18 : k < 18) (hm : nt_wds[k]? = some [x, y, z, u, w, t, s]) (h0 : ¬ nt_ty T b p = k → A I) (h1 : nt_ty T b p = k → B I) : ny_C1 (d + 1) m_Md_isName [.ref 102, .int (nI 7), .int (nI x), .int (nI y), .int (nI z), .int (nI s)] Ln I fun r4 I3 => (r4 = 0 → A I3) ∧ (¬ r4 = 0 → ny_C1 (d + 1) m_Md_isSame [.ref 102, .int (nI 3), .int (nI u), .int (nI w), .int (nI t)] Ln I3 fun r6 I5 => (r6 = 0 → A I5) ∧ (¬ r6 = 0 → B I5)) := by
  have v := hV.1
  have hi := nt_tk (T := T) (b := b) (p := p) hk h18 hm
  have key : nt_ty T b p = k → nt_ki T b p = 1 ∧ nt_en T b p - p = 7 ∧ b p = x ∧ b (p + 1) = y ∧ b (p + 2) = z ∧ b (p + 3) = u ∧ b (p + 4) = w ∧ b (p + 5) = t ∧ b (p + 6) = s := by
    intro e
    obtain ⟨g1, g2⟩ := hi.mpr e
    have hl := nt_wd_len (T := T) (b := b) (p := p)
    rw [g2] at hl
    have hl : nt_en T b p - p = 7 := hl.symm
    rw [nt_wdn 7 hl] at g2
    have g2 : [b p, b (p + 1), b (p + 2), b (p + 3), b (p + 4), b (p + 5), b (p + 6)] = [x, y, z, u, w, t, s] := g2
    injection g2 with e1 g2; injection g2 with e2 g2; injection g2 with e3 g2; injection g2 with e4 g2; injection g2 with e5 g2; injection g2 with e6 g2; injection g2 with e7 g2
    exact ⟨g1, hl, e1, e2, e3, e4, e5, e6, e7⟩
  refine q_Md_isName hM hV ht (by omega) (by omega) (fun c => ⟨fun _ => h0 fun e => c ?_, fun q => absurd rfl q⟩) fun c1 c2 c3 c4 c5 c6 c7 => ⟨fun q => absurd q (by decide), fun _ => ?_⟩
  · obtain ⟨g1, g2, g3, g4, g5, g6, g7, g8, g9⟩ := key e
    exact ⟨g1, g2, g3, g4, g5, by rw [show nt_en T b p - 1 = p + 6 by omega]; exact g9⟩
  · refine q_Md_isSame hM hV ht (by omega) (by omega) (fun c => ⟨fun _ => h0 fun e => c ?_, fun q => absurd rfl q⟩) fun d1 d2 d3 => ⟨fun q => absurd q (by decide), fun _ => h1 (hi.mp ⟨c1, ?_⟩)⟩
    · obtain ⟨g1, g2, g3, g4, g5, g6, g7, g8, g9⟩ := key e
      exact ⟨g6, g7, g8⟩
    · rw [nt_wdn 7 c2]
      show [b p, b (p + 1), b (p + 2), b (p + 3), b (p + 3 + 1), b (p + 3 + 2), b (p + 6)] = _
      rw [show nt_en T b p - 1 = p + 6 by omega] at c6
      rw [c3, c4, c5, d1, d2, d3, c6]
theorem nt_q2 {x y k : Nat} (hM : nt_M I T b) (hV : nt_V T b) (ht : nt_mt I T b p) (hx : x < 256 ∧ y < 256) (hk : nt_ix [x, y] = k) (h18 : k < 18) (hm : nt_wds[k]? = some [x, y]) (h0 : ¬ nt_ty T b p = k → Q (nI 0) I) (h1 : nt_ty T b p = k → Q (nI 1) I) : ny_C1 (d + 1) m_Md_isTwo [.ref 102, .int (nI x), .int (nI y)] Ln I Q := by
  have v := hV.1
  have hi := nt_tk (T := T) (b := b) (p := p) hk h18 hm
  obtain ⟨k0, k00, k1, k2, k3⟩ := nt_ki_p T b p
  obtain ⟨t1, t2, t3, t4, _⟩ := ht
  have ep := nt_en_p (T := T) (b := b) (p := p)
  have ep2 := ep.2.1 t1
  have e3 : nI (nt_ki T b p) = 1 ↔ nt_ki T b p = 1 := ny_eq (b := 1) (by omega) (by decide)
  have key : nt_ty T b p = k → nt_ki T b p = 1 ∧ nt_en T b p - p = 2 ∧ b p = x ∧ b (p + 1) = y := by
    intro e
    obtain ⟨g1, g2⟩ := hi.mpr e
    have hl := nt_wd_len (T := T) (b := b) (p := p)
    rw [g2] at hl
    have hl : nt_en T b p - p = 2 := hl.symm
    rw [nt_wdn 2 hl] at g2
    have g2 : [b p, b (p + 1)] = [x, y] := g2
    injection g2 with e1 g2; injection g2 with e2 g2
    exact ⟨g1, hl, e1, e2⟩
  have e2 : nI (nt_en T b p - p) = 2 ↔ nt_en T b p - p = 2 := ny_eq (b := 2) (by omega) (by decide)
  refine s_Md_isTwo_0 ?_
  rw [t4, e3, t3, t2, pk_sub ep.1, e2]
  refine ⟨fun q => h0 fun e => q (key e).1, fun q => ⟨fun q2 => h0 fun e => q2 (key e).2.1, fun q2 => ?_⟩⟩
  refine q_Md_byteAt hM hV (by omega) ?_
  rw [nt_bt_l (by omega), ny_eq (by have := hV.2 p (by omega); omega) (by omega)]
  refine ⟨fun q3 => h0 fun e => q3 (key e).2.2.1, fun q3 => ?_⟩
  rw [t2, nI_1]
  refine q_Md_byteAt hM hV (by omega) ?_
  rw [nt_bt_l (by omega), ny_eq (by have := hV.2 (p + 1) (by omega); omega) (by omega)]
  refine ⟨fun q4 => h0 fun e => q4 (key e).2.2.2, fun q4 => h1 (hi.mp ⟨q, ?_⟩)⟩
  rw [nt_wdn 2 q2]
  show [b p, b (p + 1)] = _
  rw [q3, q4]
end NZMW
