/-! both: how many, what is kept -/
def nz_bcx (x0 : Int32) : Int32 := ((((((((x0 - (((x0).toUInt32 >>> (((1 : Int32)).toUInt32 &&& Int32.toUInt32 31)).toInt32 &&& (1431655765 : Int32))) &&& (858993459 : Int32)) + ((((x0 - (((x0).toUInt32 >>> (((1 : Int32)).toUInt32 &&& Int32.toUInt32 31)).toInt32 &&& (1431655765 : Int32)))).toUInt32 >>> (((2 : Int32)).toUInt32 &&& Int32.toUInt32 31)).toInt32 &&& (858993459 : Int32))) + (((((x0 - (((x0).toUInt32 >>> (((1 : Int32)).toUInt32 &&& Int32.toUInt32 31)).toInt32 &&& (1431655765 : Int32))) &&& (858993459 : Int32)) + ((((x0 - (((x0).toUInt32 >>> (((1 : Int32)).toUInt32 &&& Int32.toUInt32 31)).toInt32 &&& (1431655765 : Int32)))).toUInt32 >>> (((2 : Int32)).toUInt32 &&& Int32.toUInt32 31)).toInt32 &&& (858993459 : Int32)))).toUInt32 >>> (((4 : Int32)).toUInt32 &&& Int32.toUInt32 31)).toInt32) &&& (252645135 : Int32)) + (((((((x0 - (((x0).toUInt32 >>> (((1 : Int32)).toUInt32 &&& Int32.toUInt32 31)).toInt32 &&& (1431655765 : Int32))) &&& (858993459 : Int32)) + ((((x0 - (((x0).toUInt32 >>> (((1 : Int32)).toUInt32 &&& Int32.toUInt32 31)).toInt32 &&& (1431655765 : Int32)))).toUInt32 >>> (((2 : Int32)).toUInt32 &&& Int32.toUInt32 31)).toInt32 &&& (858993459 : Int32))) + (((((x0 - (((x0).toUInt32 >>> (((1 : Int32)).toUInt32 &&& Int32.toUInt32 31)).toInt32 &&& (1431655765 : Int32))) &&& (858993459 : Int32)) + ((((x0 - (((x0).toUInt32 >>> (((1 : Int32)).toUInt32 &&& Int32.toUInt32 31)).toInt32 &&& (1431655765 : Int32)))).toUInt32 >>> (((2 : Int32)).toUInt32 &&& Int32.toUInt32 31)).toInt32 &&& (858993459 : Int32)))).toUInt32 >>> (((4 : Int32)).toUInt32 &&& Int32.toUInt32 31)).toInt32) &&& (252645135 : Int32))).toUInt32 >>> (((8 : Int32)).toUInt32 &&& Int32.toUInt32 31)).toInt32) + ((((((((x0 - (((x0).toUInt32 >>> (((1 : Int32)).toUInt32 &&& Int32.toUInt32 31)).toInt32 &&& (1431655765 : Int32))) &&& (858993459 : Int32)) + ((((x0 - (((x0).toUInt32 >>> (((1 : Int32)).toUInt32 &&& Int32.toUInt32 31)).toInt32 &&& (1431655765 : Int32)))).toUInt32 >>> (((2 : Int32)).toUInt32 &&& Int32.toUInt32 31)).toInt32 &&& (858993459 : Int32))) + (((((x0 - (((x0).toUInt32 >>> (((1 : Int32)).toUInt32 &&& Int32.toUInt32 31)).toInt32 &&& (1431655765 : Int32))) &&& (858993459 : Int32)) + ((((x0 - (((x0).toUInt32 >>> (((1 : Int32)).toUInt32 &&& Int32.toUInt32 31)).toInt32 &&& (1431655765 : Int32)))).toUInt32 >>> (((2 : Int32)).toUInt32 &&& Int32.toUInt32 31)).toInt32 &&& (858993459 : Int32)))).toUInt32 >>> (((4 : Int32)).toUInt32 &&& Int32.toUInt32 31)).toInt32) &&& (252645135 : Int32)) + (((((((x0 - (((x0).toUInt32 >>> (((1 : Int32)).toUInt32 &&& Int32.toUInt32 31)).toInt32 &&& (1431655765 : Int32))) &&& (858993459 : Int32)) + ((((x0 - (((x0).toUInt32 >>> (((1 : Int32)).toUInt32 &&& Int32.toUInt32 31)).toInt32 &&& (1431655765 : Int32)))).toUInt32 >>> (((2 : Int32)).toUInt32 &&& Int32.toUInt32 31)).toInt32 &&& (858993459 : Int32))) + (((((x0 - (((x0).toUInt32 >>> (((1 : Int32)).toUInt32 &&& Int32.toUInt32 31)).toInt32 &&& (1431655765 : Int32))) &&& (858993459 : Int32)) + ((((x0 - (((x0).toUInt32 >>> (((1 : Int32)).toUInt32 &&& Int32.toUInt32 31)).toInt32 &&& (1431655765 : Int32)))).toUInt32 >>> (((2 : Int32)).toUInt32 &&& Int32.toUInt32 31)).toInt32 &&& (858993459 : Int32)))).toUInt32 >>> (((4 : Int32)).toUInt32 &&& Int32.toUInt32 31)).toInt32) &&& (252645135 : Int32))).toUInt32 >>> (((8 : Int32)).toUInt32 &&& Int32.toUInt32 31)).toInt32)).toUInt32 >>> (((16 : Int32)).toUInt32 &&& Int32.toUInt32 31)).toInt32) &&& (63 : Int32))
def nz_bc : Nat → Nat → Nat
  | 0, _ => 0
  | f + 1, m => if m = 0 then 0 else 1 + nz_bc f (m &&& (m - 1))
def nz_it : Nat → Nat → Nat
  | 0, m => m
  | f + 1, m => nz_it f (m &&& (m - 1))
theorem nz_bcx_e : ∀ m, m < 64 → nz_bcx (nI m) = nI (nz_bc 6 m) := by decide +kernel
theorem nz_it_6 : ∀ m, m < 64 → nz_it 6 m = 0 := by decide +kernel
theorem nz_it_s : ∀ m, m < 64 → nI m &&& (nI m - 1) = nI (m &&& (m - 1)) ∧ m &&& (m - 1) < 64 := by decide +kernel
theorem nz_it_0 : ∀ f, nz_it f 0 = 0 := by
  intro f
  induction f with
  | zero => rfl
  | succ f ih => exact ih
def o_many (x : Int32) (a : ny_a) (n taped : Nat) (tr : nz_tr) : Int32 := match nz_in 0 6 x with
  | some w => if w = 0 then nI (a 0) else if w = 1 then nI (a 5) else if w = 2 then nI (nz_bc 6 (nz_msk (nz_L a))) else if w = 3 then nI (a 6) else if w = 4 then nI n else if w = 5 then nI taped else nI (min 30 tr.1)
  | none => nI 4294967295
/-- what is read of the basin -/
def nz_rq (q j : Nat) : Prop := q = 6 ∧ (j = 4 ∨ j = 8 ∨ j = 9 ∨ j = 10) ∨ (q = 8 ∨ q = 9 ∨ q = 10 ∨ q = 11 ∨ q = 13 ∨ q = 14) ∧ j < 6 ∨ q = 12 ∧ j < 16 ∨ q = 15 ∧ (j = 0 ∨ j = 4) ∨ (q = 16 ∨ q = 17 ∨ q = 18) ∧ j < 8 ∨ (q = 19 ∨ q = 20 ∨ q = 21) ∧ j < 200 ∨ q = 22 ∧ j < 205 ∨ q = 7 ∧ (j = 1 ∨ j = 2) ∨ q = 23 ∧ j = 0 ∨ (q = 24 ∨ q = 25 ∨ q = 26 ∨ q = 27) ∧ j < 6
theorem nz_vr_k {I I' : ny_I} (h : ∀ j, j < 205 → I' 22 j = I 22 j) {x : Int32} {v : Nat} (hv : ny_vr I x v) : ny_vr I' x v := by
  rcases hv with hv | ⟨h1, j, h2, h3, h4, h5⟩
  · exact Or.inl hv
  · exact Or.inr ⟨h1, j, h2, h3, h4, by rw [h j h3]; exact h5⟩
theorem nz_Cl_k {I I' : ny_I} {a : ny_a} (hV : ny_V a) (h1 : I' 1 = I 1) (h : ∀ q j, nz_rq q j → I' q j = I q j) (hC : ny_Cl I a) : ny_Cl I' a := by
  have v := hV.1
  obtain ⟨⟨⟨c1, c2⟩, c3, c4, c5, ⟨c6, c7⟩, c8, c9, c10⟩, ⟨m1, m2, m, m3, m4, m5⟩, ⟨s1, s2⟩, r1, r2⟩ := hC
  have e : ∀ q j, nz_rq q j → ∀ x, I q j = x → I' q j = x := fun q j r x hx => (h q j r).trans hx
  refine ⟨⟨⟨e _ _ (by unfold nz_rq; omega) _ c1, e _ _ (by unfold nz_rq; omega) _ c2⟩, fun k hk => ?_, fun f hf => ?_, fun b hb => e _ _ (by unfold nz_rq; omega) _ (c5 b hb), ⟨e _ _ (by unfold nz_rq; omega) _ c6, e _ _ (by unfold nz_rq; omega) _ c7⟩, fun r hr => ?_, fun i hi => ?_, h1.trans c10⟩, ⟨e _ _ (by unfold nz_rq; omega) _ m1, fun k hk => e _ _ (by unfold nz_rq; omega) _ (m2 k hk), m, m3, e _ _ (by unfold nz_rq; omega) _ m4, m5⟩, ⟨e _ _ (by unfold nz_rq; omega) _ s1, e _ _ (by unfold nz_rq; omega) _ s2⟩, e _ _ (by unfold nz_rq; omega) _ r1, fun r hr => ?_⟩
  · obtain ⟨g1, g2, g3⟩ := c3 k hk
    exact ⟨e _ _ (by unfold nz_rq; omega) _ g1, e _ _ (by unfold nz_rq; omega) _ g2, e _ _ (by unfold nz_rq; omega) _ g3⟩
  · obtain ⟨g1, g2⟩ := c4 f hf
    exact ⟨e _ _ (by unfold nz_rq; omega) _ g1, e _ _ (by unfold nz_rq; omega) _ g2⟩
  · obtain ⟨g1, g2, g3⟩ := c8 r hr
    exact ⟨e _ _ (by unfold nz_rq; omega) _ g1, e _ _ (by unfold nz_rq; omega) _ g2, e _ _ (by unfold nz_rq; omega) _ g3⟩
  · obtain ⟨g1, g2⟩ := c9 i hi
    refine ⟨e _ _ (by unfold nz_rq; omega) _ g1, fun q => ?_⟩
    rw [h 20 i (by unfold nz_rq; omega), h 21 i (by unfold nz_rq; omega)]
    exact ⟨nz_vr_k (fun j hj => h 22 j (by unfold nz_rq; omega)) (g2 q).1, nz_vr_k (fun j hj => h 22 j (by unfold nz_rq; omega)) (g2 q).2⟩
  · obtain ⟨g1, g2, g3, g4⟩ := r2 r hr
    exact ⟨e _ _ (by unfold nz_rq; omega) _ g1, e _ _ (by unfold nz_rq; omega) _ g2, e _ _ (by unfold nz_rq; omega) _ g3, e _ _ (by unfold nz_rq; omega) _ g4⟩
theorem ny_cprd (I : ny_I) (d s sp dp n q j : Nat) : ny_cp I d s sp dp n q j = if q = d ∧ dp ≤ j ∧ j < dp + n then I s (sp + (j - dp)) else I q j := by
  unfold ny_cp
  by_cases e : q = d
  · subst e
    rw [if_pos rfl]
    unfold va_cpy
    by_cases c : dp ≤ j ∧ j < dp + n
    · rw [if_pos c, if_pos ⟨rfl, c⟩]
    · rw [if_neg c, if_neg (fun r => c r.2)]
  · rw [if_neg e, if_neg (fun r => e r.1)]
theorem ny_cpne (I : ny_I) {d q : Nat} (h : q ≠ d) (s sp dp n : Nat) : ny_cp I d s sp dp n q = I q := if_neg h
theorem nz_c0 : Int32.toNatClampNeg 0 = 0 := rfl
theorem nz_c6 : Int32.toNatClampNeg 6 = 6 := rfl
theorem nz_c8 : Int32.toNatClampNeg 8 = 8 := rfl
theorem nz_c16 : Int32.toNatClampNeg 16 = 16 := rfl
theorem nz_c200 : Int32.toNatClampNeg 200 = 200 := rfl
theorem nz_c205 : Int32.toNatClampNeg 205 = 205 := rfl
section NZKE
variable {d Ln : Nat} {I : ny_I} {Q : Int32 → ny_I → Prop} {Q0 : ny_I → Prop} {a : ny_a}
theorem q_Mo_bk (h : ∀ I', (∀ q, q ≠ 31 → q ≠ 32 → I' q = I q) → I' 31 1 = I 7 1 → I' 31 2 = I 7 2 → (∀ j, j < 6 → I' 32 j = I 8 j) → Q0 I') : ny_C0 d m_Mo_become [.ref 31, .ref 7] Ln I Q0 := by
  refine s_Mo_become_31_7_0 (h _ (fun q x y => ?_) ?_ ?_ fun j hj => ?_)
  · simp (disch := omega) only [ny_upne, ny_cpne]
  · simp (disch := omega) only [nz_c0, nz_c6, nz_c8, nz_c16, nz_c200, nz_c205, ny_uprd, ny_cprd, if_pos, if_neg, Nat.zero_add, Nat.sub_zero, true_and, and_true, if_true]
  · simp (disch := omega) only [nz_c0, nz_c6, nz_c8, nz_c16, nz_c200, nz_c205, ny_uprd, ny_cprd, if_pos, if_neg, Nat.zero_add, Nat.sub_zero, true_and, and_true, if_true]
  · simp (disch := omega) only [nz_c0, nz_c6, nz_c8, nz_c16, nz_c200, nz_c205, ny_uprd, ny_cprd, if_pos, if_neg, Nat.zero_add, Nat.sub_zero, true_and, and_true, if_true]
theorem q_Ru_bk (h : ∀ I', (∀ q, ¬ (39 ≤ q ∧ q ≤ 46) → I' q = I q) → I' 39 0 = I 15 0 → I' 39 4 = I 15 4 → (∀ j, j < 8 → I' 40 j = I 16 j ∧ I' 41 j = I 17 j ∧ I' 42 j = I 18 j) → (∀ j, j < 200 → I' 43 j = I 19 j ∧ I' 44 j = I 20 j ∧ I' 45 j = I 21 j) → (∀ j, j < 205 → I' 46 j = I 22 j) → Q0 I') : ny_C0 d m_Ru_become [.ref 39, .ref 15] Ln I Q0 := by
  refine s_Ru_become_39_15_0 (h _ (fun q x => ?_) ?_ ?_ (fun j hj => ⟨?_, ?_, ?_⟩) (fun j hj => ⟨?_, ?_, ?_⟩) fun j hj => ?_)
  · simp (disch := omega) only [ny_upne, ny_cpne]
  · simp (disch := omega) only [nz_c0, nz_c6, nz_c8, nz_c16, nz_c200, nz_c205, ny_uprd, ny_cprd, if_pos, if_neg, Nat.zero_add, Nat.sub_zero, true_and, and_true, if_true]
  · simp (disch := omega) only [nz_c0, nz_c6, nz_c8, nz_c16, nz_c200, nz_c205, ny_uprd, ny_cprd, if_pos, if_neg, Nat.zero_add, Nat.sub_zero, true_and, and_true, if_true]
  · simp (disch := omega) only [nz_c0, nz_c6, nz_c8, nz_c16, nz_c200, nz_c205, ny_uprd, ny_cprd, if_pos, if_neg, Nat.zero_add, Nat.sub_zero, true_and, and_true, if_true]
  · simp (disch := omega) only [nz_c0, nz_c6, nz_c8, nz_c16, nz_c200, nz_c205, ny_uprd, ny_cprd, if_pos, if_neg, Nat.zero_add, Nat.sub_zero, true_and, and_true, if_true]
  · simp (disch := omega) only [nz_c0, nz_c6, nz_c8, nz_c16, nz_c200, nz_c205, ny_uprd, ny_cprd, if_pos, if_neg, Nat.zero_add, Nat.sub_zero, true_and, and_true, if_true]
  · simp (disch := omega) only [nz_c0, nz_c6, nz_c8, nz_c16, nz_c200, nz_c205, ny_uprd, ny_cprd, if_pos, if_neg, Nat.zero_add, Nat.sub_zero, true_and, and_true, if_true]
  · simp (disch := omega) only [nz_c0, nz_c6, nz_c8, nz_c16, nz_c200, nz_c205, ny_uprd, ny_cprd, if_pos, if_neg, Nat.zero_add, Nat.sub_zero, true_and, and_true, if_true]
  · simp (disch := omega) only [nz_c0, nz_c6, nz_c8, nz_c16, nz_c200, nz_c205, ny_uprd, ny_cprd, if_pos, if_neg, Nat.zero_add, Nat.sub_zero, true_and, and_true, if_true]
  · simp (disch := omega) only [nz_c0, nz_c6, nz_c8, nz_c16, nz_c200, nz_c205, ny_uprd, ny_cprd, if_pos, if_neg, Nat.zero_add, Nat.sub_zero, true_and, and_true, if_true]
theorem q_Re_bk (h : ∀ I', (∀ q, ¬ (47 ≤ q ∧ q ≤ 51) → I' q = I q) → I' 47 0 = I 23 0 → (∀ j, j < 6 → I' 48 j = I 24 j ∧ I' 49 j = I 25 j ∧ I' 50 j = I 26 j ∧ I' 51 j = I 27 j) → Q0 I') : ny_C0 d m_Re_become [.ref 47, .ref 23] Ln I Q0 := by
  refine s_Re_become_47_23_0 (h _ (fun q x => ?_) ?_ fun j hj => ⟨?_, ?_, ?_, ?_⟩)
  · simp (disch := omega) only [ny_upne, ny_cpne]
  · simp (disch := omega) only [nz_c0, nz_c6, nz_c8, nz_c16, nz_c200, nz_c205, ny_uprd, ny_cprd, if_pos, if_neg, Nat.zero_add, Nat.sub_zero, true_and, and_true, if_true]
  · simp (disch := omega) only [nz_c0, nz_c6, nz_c8, nz_c16, nz_c200, nz_c205, ny_uprd, ny_cprd, if_pos, if_neg, Nat.zero_add, Nat.sub_zero, true_and, and_true, if_true]
  · simp (disch := omega) only [nz_c0, nz_c6, nz_c8, nz_c16, nz_c200, nz_c205, ny_uprd, ny_cprd, if_pos, if_neg, Nat.zero_add, Nat.sub_zero, true_and, and_true, if_true]
  · simp (disch := omega) only [nz_c0, nz_c6, nz_c8, nz_c16, nz_c200, nz_c205, ny_uprd, ny_cprd, if_pos, if_neg, Nat.zero_add, Nat.sub_zero, true_and, and_true, if_true]
  · simp (disch := omega) only [nz_c0, nz_c6, nz_c8, nz_c16, nz_c200, nz_c205, ny_uprd, ny_cprd, if_pos, if_neg, Nat.zero_add, Nat.sub_zero, true_and, and_true, if_true]
theorem q_Ba_bk (h : ∀ I', (∀ q, ¬ (30 ≤ q ∧ q ≤ 51) → I' q = I q) → (∀ q j, nz_rq q j → I' (q + 24) j = I (q + 0) j) → Q0 I') : ny_C0 (d + 1) m_Ba_become [.ref 30, .ref 6] Ln I Q0 := by
  refine s_Ba_become_30_6_0 (q_Mo_bk fun I1 a1 a2 a3 a4 => q_Ru_bk fun I2 b1 b2 b3 b4 b5 b6 => q_Re_bk fun I3 c1 c2 c3 => h I3 (fun q x => ?_) fun q j r => ?_)
  · rw [c1 q (by omega), b1 q (by omega)]
    simp (disch := omega) only [ny_upne, ny_cpne]
    exact a1 q (by omega) (by omega)
  · have r2 := r
    unfold nz_rq at r
    have hq : q = 6 ∨ q = 7 ∨ q = 8 ∨ q = 9 ∨ q = 10 ∨ q = 11 ∨ q = 12 ∨ q = 13 ∨ q = 14 ∨ q = 15 ∨ q = 16 ∨ q = 17 ∨ q = 18 ∨ q = 19 ∨ q = 20 ∨ q = 21 ∨ q = 22 ∨ q = 23 ∨ q = 24 ∨ q = 25 ∨ q = 26 ∨ q = 27 := by omega
    rcases hq with rfl | rfl | rfl | rfl | rfl | rfl | rfl | rfl | rfl | rfl | rfl | rfl | rfl | rfl | rfl | rfl | rfl | rfl | rfl | rfl | rfl | rfl
    · rw [c1 _ (by omega), b1 _ (by omega)]
      have hj : j = 4 ∨ j = 8 ∨ j = 9 ∨ j = 10 := by omega
      rcases hj with rfl | rfl | rfl | rfl
      · show _ = I 6 4
        simp (disch := omega) only [nz_c0, nz_c6, nz_c8, nz_c16, nz_c200, nz_c205, ny_uprd, ny_cprd, if_pos, if_neg, Nat.zero_add, Nat.sub_zero, true_and, and_true, if_true]
        rw [a1 _ (by omega) (by omega)]
      · show _ = I 6 8
        simp (disch := omega) only [nz_c0, nz_c6, nz_c8, nz_c16, nz_c200, nz_c205, ny_uprd, ny_cprd, if_pos, if_neg, Nat.zero_add, Nat.sub_zero, true_and, and_true, if_true]
        rw [a1 _ (by omega) (by omega)]
      · show _ = I 6 9
        simp (disch := omega) only [nz_c0, nz_c6, nz_c8, nz_c16, nz_c200, nz_c205, ny_uprd, ny_cprd, if_pos, if_neg, Nat.zero_add, Nat.sub_zero, true_and, and_true, if_true]
        rw [a1 _ (by omega) (by omega)]
      · show _ = I 6 10
        simp (disch := omega) only [nz_c0, nz_c6, nz_c8, nz_c16, nz_c200, nz_c205, ny_uprd, ny_cprd, if_pos, if_neg, Nat.zero_add, Nat.sub_zero, true_and, and_true, if_true]
        rw [a1 _ (by omega) (by omega)]
    · rw [c1 _ (by omega), b1 _ (by omega)]
      simp (disch := omega) only [ny_upne, ny_cpne]
      have hj : j = 1 ∨ j = 2 := by omega
      rcases hj with rfl | rfl
      · exact a2
      · exact a3
    · rw [c1 _ (by omega), b1 _ (by omega)]
      simp (disch := omega) only [ny_upne, ny_cpne]
      exact a4 j (by omega)
    · rw [c1 _ (by omega), b1 _ (by omega)]
      show _ = I 9 j
      simp (disch := omega) only [nz_c0, nz_c6, nz_c8, nz_c16, nz_c200, nz_c205, ny_uprd, ny_cprd, if_pos, if_neg, Nat.zero_add, Nat.sub_zero, true_and, and_true, if_true]
      rw [a1 _ (by omega) (by omega)]
    · rw [c1 _ (by omega), b1 _ (by omega)]
      show _ = I 10 j
      simp (disch := omega) only [nz_c0, nz_c6, nz_c8, nz_c16, nz_c200, nz_c205, ny_uprd, ny_cprd, if_pos, if_neg, Nat.zero_add, Nat.sub_zero, true_and, and_true, if_true]
      rw [a1 _ (by omega) (by omega)]
    · rw [c1 _ (by omega), b1 _ (by omega)]
      show _ = I 11 j
      simp (disch := omega) only [nz_c0, nz_c6, nz_c8, nz_c16, nz_c200, nz_c205, ny_uprd, ny_cprd, if_pos, if_neg, Nat.zero_add, Nat.sub_zero, true_and, and_true, if_true]
      rw [a1 _ (by omega) (by omega)]
    · rw [c1 _ (by omega), b1 _ (by omega)]
      show _ = I 12 j
      simp (disch := omega) only [nz_c0, nz_c6, nz_c8, nz_c16, nz_c200, nz_c205, ny_uprd, ny_cprd, if_pos, if_neg, Nat.zero_add, Nat.sub_zero, true_and, and_true, if_true]
      rw [a1 _ (by omega) (by omega)]
    · rw [c1 _ (by omega), b1 _ (by omega)]
      show _ = I 13 j
      simp (disch := omega) only [nz_c0, nz_c6, nz_c8, nz_c16, nz_c200, nz_c205, ny_uprd, ny_cprd, if_pos, if_neg, Nat.zero_add, Nat.sub_zero, true_and, and_true, if_true]
      rw [a1 _ (by omega) (by omega)]
    · rw [c1 _ (by omega), b1 _ (by omega)]
      show _ = I 14 j
      simp (disch := omega) only [nz_c0, nz_c6, nz_c8, nz_c16, nz_c200, nz_c205, ny_uprd, ny_cprd, if_pos, if_neg, Nat.zero_add, Nat.sub_zero, true_and, and_true, if_true]
      rw [a1 _ (by omega) (by omega)]
    · rw [c1 _ (by omega)]
      have hj : j = 0 ∨ j = 4 := by omega
      rcases hj with rfl | rfl
      · refine b2.trans ?_
        simp (disch := omega) only [ny_upne, ny_cpne]
        rw [a1 _ (by omega) (by omega)]
      · refine b3.trans ?_
        simp (disch := omega) only [ny_upne, ny_cpne]
        rw [a1 _ (by omega) (by omega)]
    · rw [c1 _ (by omega)]
      refine ((b4 j (by omega)).1).trans ?_
      simp (disch := omega) only [ny_upne, ny_cpne]
      rw [a1 _ (by omega) (by omega)]
    · rw [c1 _ (by omega)]
      refine ((b4 j (by omega)).2.1).trans ?_
      simp (disch := omega) only [ny_upne, ny_cpne]
      rw [a1 _ (by omega) (by omega)]
    · rw [c1 _ (by omega)]
      refine ((b4 j (by omega)).2.2).trans ?_
      simp (disch := omega) only [ny_upne, ny_cpne]
      rw [a1 _ (by omega) (by omega)]
    · rw [c1 _ (by omega)]
      refine ((b5 j (by omega)).1).trans ?_
      simp (disch := omega) only [ny_upne, ny_cpne]
      rw [a1 _ (by omega) (by omega)]
    · rw [c1 _ (by omega)]
      refine ((b5 j (by omega)).2.1).trans ?_
      simp (disch := omega) only [ny_upne, ny_cpne]
      rw [a1 _ (by omega) (by omega)]
    · rw [c1 _ (by omega)]
      refine ((b5 j (by omega)).2.2).trans ?_
      simp (disch := omega) only [ny_upne, ny_cpne]
      rw [a1 _ (by omega) (by omega)]
    · rw [c1 _ (by omega)]
      refine (b6 j (by omega)).trans ?_
      simp (disch := omega) only [ny_upne, ny_cpne]
      rw [a1 _ (by omega) (by omega)]
    · have hj : j = 0 := by omega
      subst hj
      refine c2.trans ?_
      rw [b1 _ (by omega)]
      simp (disch := omega) only [ny_upne, ny_cpne]
      rw [a1 _ (by omega) (by omega)]
    · refine ((c3 j (by omega)).1).trans ?_
      rw [b1 _ (by omega)]
      simp (disch := omega) only [ny_upne, ny_cpne]
      rw [a1 _ (by omega) (by omega)]
    · refine ((c3 j (by omega)).2.1).trans ?_
      rw [b1 _ (by omega)]
      simp (disch := omega) only [ny_upne, ny_cpne]
      rw [a1 _ (by omega) (by omega)]
    · refine ((c3 j (by omega)).2.2.1).trans ?_
      rw [b1 _ (by omega)]
      simp (disch := omega) only [ny_upne, ny_cpne]
      rw [a1 _ (by omega) (by omega)]
    · refine ((c3 j (by omega)).2.2.2).trans ?_
      rw [b1 _ (by omega)]
      simp (disch := omega) only [ny_upne, ny_cpne]
      rw [a1 _ (by omega) (by omega)]
theorem q_Mo_ba (h : ∀ I', (∀ q, q ≠ 7 → q ≠ 8 → I' q = I q) → I' 7 1 = I 31 1 → I' 7 2 = I 31 2 → (∀ j, j < 6 → I' 8 j = I 32 j) → Q0 I') : ny_C0 d m_Mo_become [.ref 7, .ref 31] Ln I Q0 := by
  refine s_Mo_become_7_31_0 (h _ (fun q x y => ?_) ?_ ?_ fun j hj => ?_)
  · simp (disch := omega) only [ny_upne, ny_cpne]
  · simp (disch := omega) only [nz_c0, nz_c6, nz_c8, nz_c16, nz_c200, nz_c205, ny_uprd, ny_cprd, if_pos, if_neg, Nat.zero_add, Nat.sub_zero, true_and, and_true, if_true]
  · simp (disch := omega) only [nz_c0, nz_c6, nz_c8, nz_c16, nz_c200, nz_c205, ny_uprd, ny_cprd, if_pos, if_neg, Nat.zero_add, Nat.sub_zero, true_and, and_true, if_true]
  · simp (disch := omega) only [nz_c0, nz_c6, nz_c8, nz_c16, nz_c200, nz_c205, ny_uprd, ny_cprd, if_pos, if_neg, Nat.zero_add, Nat.sub_zero, true_and, and_true, if_true]
theorem q_Ru_ba (h : ∀ I', (∀ q, ¬ (15 ≤ q ∧ q ≤ 22) → I' q = I q) → I' 15 0 = I 39 0 → I' 15 4 = I 39 4 → (∀ j, j < 8 → I' 16 j = I 40 j ∧ I' 17 j = I 41 j ∧ I' 18 j = I 42 j) → (∀ j, j < 200 → I' 19 j = I 43 j ∧ I' 20 j = I 44 j ∧ I' 21 j = I 45 j) → (∀ j, j < 205 → I' 22 j = I 46 j) → Q0 I') : ny_C0 d m_Ru_become [.ref 15, .ref 39] Ln I Q0 := by
  refine s_Ru_become_15_39_0 (h _ (fun q x => ?_) ?_ ?_ (fun j hj => ⟨?_, ?_, ?_⟩) (fun j hj => ⟨?_, ?_, ?_⟩) fun j hj => ?_)
  · simp (disch := omega) only [ny_upne, ny_cpne]
  · simp (disch := omega) only [nz_c0, nz_c6, nz_c8, nz_c16, nz_c200, nz_c205, ny_uprd, ny_cprd, if_pos, if_neg, Nat.zero_add, Nat.sub_zero, true_and, and_true, if_true]
  · simp (disch := omega) only [nz_c0, nz_c6, nz_c8, nz_c16, nz_c200, nz_c205, ny_uprd, ny_cprd, if_pos, if_neg, Nat.zero_add, Nat.sub_zero, true_and, and_true, if_true]
  · simp (disch := omega) only [nz_c0, nz_c6, nz_c8, nz_c16, nz_c200, nz_c205, ny_uprd, ny_cprd, if_pos, if_neg, Nat.zero_add, Nat.sub_zero, true_and, and_true, if_true]
  · simp (disch := omega) only [nz_c0, nz_c6, nz_c8, nz_c16, nz_c200, nz_c205, ny_uprd, ny_cprd, if_pos, if_neg, Nat.zero_add, Nat.sub_zero, true_and, and_true, if_true]
  · simp (disch := omega) only [nz_c0, nz_c6, nz_c8, nz_c16, nz_c200, nz_c205, ny_uprd, ny_cprd, if_pos, if_neg, Nat.zero_add, Nat.sub_zero, true_and, and_true, if_true]
  · simp (disch := omega) only [nz_c0, nz_c6, nz_c8, nz_c16, nz_c200, nz_c205, ny_uprd, ny_cprd, if_pos, if_neg, Nat.zero_add, Nat.sub_zero, true_and, and_true, if_true]
  · simp (disch := omega) only [nz_c0, nz_c6, nz_c8, nz_c16, nz_c200, nz_c205, ny_uprd, ny_cprd, if_pos, if_neg, Nat.zero_add, Nat.sub_zero, true_and, and_true, if_true]
  · simp (disch := omega) only [nz_c0, nz_c6, nz_c8, nz_c16, nz_c200, nz_c205, ny_uprd, ny_cprd, if_pos, if_neg, Nat.zero_add, Nat.sub_zero, true_and, and_true, if_true]
  · simp (disch := omega) only [nz_c0, nz_c6, nz_c8, nz_c16, nz_c200, nz_c205, ny_uprd, ny_cprd, if_pos, if_neg, Nat.zero_add, Nat.sub_zero, true_and, and_true, if_true]
theorem q_Ru_bs (h : ∀ I', (∀ q, ¬ (15 ≤ q ∧ q ≤ 22) → I' q = I q) → I' 15 0 = I 59 0 → I' 15 4 = I 59 4 → (∀ j, j < 8 → I' 16 j = I 60 j ∧ I' 17 j = I 61 j ∧ I' 18 j = I 62 j) → (∀ j, j < 200 → I' 19 j = I 63 j ∧ I' 20 j = I 64 j ∧ I' 21 j = I 65 j) → (∀ j, j < 205 → I' 22 j = I 66 j) → Q0 I') : ny_C0 d m_Ru_become [.ref 15, .ref 59] Ln I Q0 := by
  refine s_Ru_become_15_59_0 (h _ (fun q x => ?_) ?_ ?_ (fun j hj => ⟨?_, ?_, ?_⟩) (fun j hj => ⟨?_, ?_, ?_⟩) fun j hj => ?_)
  · simp (disch := omega) only [ny_upne, ny_cpne]
  · simp (disch := omega) only [nz_c0, nz_c6, nz_c8, nz_c16, nz_c200, nz_c205, ny_uprd, ny_cprd, if_pos, if_neg, Nat.zero_add, Nat.sub_zero, true_and, and_true, if_true]
  · simp (disch := omega) only [nz_c0, nz_c6, nz_c8, nz_c16, nz_c200, nz_c205, ny_uprd, ny_cprd, if_pos, if_neg, Nat.zero_add, Nat.sub_zero, true_and, and_true, if_true]
  · simp (disch := omega) only [nz_c0, nz_c6, nz_c8, nz_c16, nz_c200, nz_c205, ny_uprd, ny_cprd, if_pos, if_neg, Nat.zero_add, Nat.sub_zero, true_and, and_true, if_true]
  · simp (disch := omega) only [nz_c0, nz_c6, nz_c8, nz_c16, nz_c200, nz_c205, ny_uprd, ny_cprd, if_pos, if_neg, Nat.zero_add, Nat.sub_zero, true_and, and_true, if_true]
  · simp (disch := omega) only [nz_c0, nz_c6, nz_c8, nz_c16, nz_c200, nz_c205, ny_uprd, ny_cprd, if_pos, if_neg, Nat.zero_add, Nat.sub_zero, true_and, and_true, if_true]
  · simp (disch := omega) only [nz_c0, nz_c6, nz_c8, nz_c16, nz_c200, nz_c205, ny_uprd, ny_cprd, if_pos, if_neg, Nat.zero_add, Nat.sub_zero, true_and, and_true, if_true]
  · simp (disch := omega) only [nz_c0, nz_c6, nz_c8, nz_c16, nz_c200, nz_c205, ny_uprd, ny_cprd, if_pos, if_neg, Nat.zero_add, Nat.sub_zero, true_and, and_true, if_true]
  · simp (disch := omega) only [nz_c0, nz_c6, nz_c8, nz_c16, nz_c200, nz_c205, ny_uprd, ny_cprd, if_pos, if_neg, Nat.zero_add, Nat.sub_zero, true_and, and_true, if_true]
  · simp (disch := omega) only [nz_c0, nz_c6, nz_c8, nz_c16, nz_c200, nz_c205, ny_uprd, ny_cprd, if_pos, if_neg, Nat.zero_add, Nat.sub_zero, true_and, and_true, if_true]
theorem q_Re_ba (h : ∀ I', (∀ q, ¬ (23 ≤ q ∧ q ≤ 27) → I' q = I q) → I' 23 0 = I 47 0 → (∀ j, j < 6 → I' 24 j = I 48 j ∧ I' 25 j = I 49 j ∧ I' 26 j = I 50 j ∧ I' 27 j = I 51 j) → Q0 I') : ny_C0 d m_Re_become [.ref 23, .ref 47] Ln I Q0 := by
  refine s_Re_become_23_47_0 (h _ (fun q x => ?_) ?_ fun j hj => ⟨?_, ?_, ?_, ?_⟩)
  · simp (disch := omega) only [ny_upne, ny_cpne]
  · simp (disch := omega) only [nz_c0, nz_c6, nz_c8, nz_c16, nz_c200, nz_c205, ny_uprd, ny_cprd, if_pos, if_neg, Nat.zero_add, Nat.sub_zero, true_and, and_true, if_true]
  · simp (disch := omega) only [nz_c0, nz_c6, nz_c8, nz_c16, nz_c200, nz_c205, ny_uprd, ny_cprd, if_pos, if_neg, Nat.zero_add, Nat.sub_zero, true_and, and_true, if_true]
  · simp (disch := omega) only [nz_c0, nz_c6, nz_c8, nz_c16, nz_c200, nz_c205, ny_uprd, ny_cprd, if_pos, if_neg, Nat.zero_add, Nat.sub_zero, true_and, and_true, if_true]
  · simp (disch := omega) only [nz_c0, nz_c6, nz_c8, nz_c16, nz_c200, nz_c205, ny_uprd, ny_cprd, if_pos, if_neg, Nat.zero_add, Nat.sub_zero, true_and, and_true, if_true]
  · simp (disch := omega) only [nz_c0, nz_c6, nz_c8, nz_c16, nz_c200, nz_c205, ny_uprd, ny_cprd, if_pos, if_neg, Nat.zero_add, Nat.sub_zero, true_and, and_true, if_true]
theorem q_Ba_ba (h : ∀ I', (∀ q, ¬ (6 ≤ q ∧ q ≤ 27) → I' q = I q) → (∀ q j, nz_rq q j → I' (q + 0) j = I (q + 24) j) → Q0 I') : ny_C0 (d + 1) m_Ba_become [.ref 6, .ref 30] Ln I Q0 := by
  refine s_Ba_become_6_30_0 (q_Mo_ba fun I1 a1 a2 a3 a4 => q_Ru_ba fun I2 b1 b2 b3 b4 b5 b6 => q_Re_ba fun I3 c1 c2 c3 => h I3 (fun q x => ?_) fun q j r => ?_)
  · rw [c1 q (by omega), b1 q (by omega)]
    simp (disch := omega) only [ny_upne, ny_cpne]
    exact a1 q (by omega) (by omega)
  · have r2 := r
    unfold nz_rq at r
    have hq : q = 6 ∨ q = 7 ∨ q = 8 ∨ q = 9 ∨ q = 10 ∨ q = 11 ∨ q = 12 ∨ q = 13 ∨ q = 14 ∨ q = 15 ∨ q = 16 ∨ q = 17 ∨ q = 18 ∨ q = 19 ∨ q = 20 ∨ q = 21 ∨ q = 22 ∨ q = 23 ∨ q = 24 ∨ q = 25 ∨ q = 26 ∨ q = 27 := by omega
    rcases hq with rfl | rfl | rfl | rfl | rfl | rfl | rfl | rfl | rfl | rfl | rfl | rfl | rfl | rfl | rfl | rfl | rfl | rfl | rfl | rfl | rfl | rfl
    · rw [c1 _ (by omega), b1 _ (by omega)]
      have hj : j = 4 ∨ j = 8 ∨ j = 9 ∨ j = 10 := by omega
      rcases hj with rfl | rfl | rfl | rfl
      · show _ = I 30 4
        simp (disch := omega) only [nz_c0, nz_c6, nz_c8, nz_c16, nz_c200, nz_c205, ny_uprd, ny_cprd, if_pos, if_neg, Nat.zero_add, Nat.sub_zero, true_and, and_true, if_true]
        rw [a1 _ (by omega) (by omega)]
      · show _ = I 30 8
        simp (disch := omega) only [nz_c0, nz_c6, nz_c8, nz_c16, nz_c200, nz_c205, ny_uprd, ny_cprd, if_pos, if_neg, Nat.zero_add, Nat.sub_zero, true_and, and_true, if_true]
        rw [a1 _ (by omega) (by omega)]
      · show _ = I 30 9
        simp (disch := omega) only [nz_c0, nz_c6, nz_c8, nz_c16, nz_c200, nz_c205, ny_uprd, ny_cprd, if_pos, if_neg, Nat.zero_add, Nat.sub_zero, true_and, and_true, if_true]
        rw [a1 _ (by omega) (by omega)]
      · show _ = I 30 10
        simp (disch := omega) only [nz_c0, nz_c6, nz_c8, nz_c16, nz_c200, nz_c205, ny_uprd, ny_cprd, if_pos, if_neg, Nat.zero_add, Nat.sub_zero, true_and, and_true, if_true]
        rw [a1 _ (by omega) (by omega)]
    · rw [c1 _ (by omega), b1 _ (by omega)]
      simp (disch := omega) only [ny_upne, ny_cpne]
      have hj : j = 1 ∨ j = 2 := by omega
      rcases hj with rfl | rfl
      · exact a2
      · exact a3
    · rw [c1 _ (by omega), b1 _ (by omega)]
      simp (disch := omega) only [ny_upne, ny_cpne]
      exact a4 j (by omega)
    · rw [c1 _ (by omega), b1 _ (by omega)]
      show _ = I 33 j
      simp (disch := omega) only [nz_c0, nz_c6, nz_c8, nz_c16, nz_c200, nz_c205, ny_uprd, ny_cprd, if_pos, if_neg, Nat.zero_add, Nat.sub_zero, true_and, and_true, if_true]
      rw [a1 _ (by omega) (by omega)]
    · rw [c1 _ (by omega), b1 _ (by omega)]
      show _ = I 34 j
      simp (disch := omega) only [nz_c0, nz_c6, nz_c8, nz_c16, nz_c200, nz_c205, ny_uprd, ny_cprd, if_pos, if_neg, Nat.zero_add, Nat.sub_zero, true_and, and_true, if_true]
      rw [a1 _ (by omega) (by omega)]
    · rw [c1 _ (by omega), b1 _ (by omega)]
      show _ = I 35 j
      simp (disch := omega) only [nz_c0, nz_c6, nz_c8, nz_c16, nz_c200, nz_c205, ny_uprd, ny_cprd, if_pos, if_neg, Nat.zero_add, Nat.sub_zero, true_and, and_true, if_true]
      rw [a1 _ (by omega) (by omega)]
    · rw [c1 _ (by omega), b1 _ (by omega)]
      show _ = I 36 j
      simp (disch := omega) only [nz_c0, nz_c6, nz_c8, nz_c16, nz_c200, nz_c205, ny_uprd, ny_cprd, if_pos, if_neg, Nat.zero_add, Nat.sub_zero, true_and, and_true, if_true]
      rw [a1 _ (by omega) (by omega)]
    · rw [c1 _ (by omega), b1 _ (by omega)]
      show _ = I 37 j
      simp (disch := omega) only [nz_c0, nz_c6, nz_c8, nz_c16, nz_c200, nz_c205, ny_uprd, ny_cprd, if_pos, if_neg, Nat.zero_add, Nat.sub_zero, true_and, and_true, if_true]
      rw [a1 _ (by omega) (by omega)]
    · rw [c1 _ (by omega), b1 _ (by omega)]
      show _ = I 38 j
      simp (disch := omega) only [nz_c0, nz_c6, nz_c8, nz_c16, nz_c200, nz_c205, ny_uprd, ny_cprd, if_pos, if_neg, Nat.zero_add, Nat.sub_zero, true_and, and_true, if_true]
      rw [a1 _ (by omega) (by omega)]
    · rw [c1 _ (by omega)]
      have hj : j = 0 ∨ j = 4 := by omega
      rcases hj with rfl | rfl
      · refine b2.trans ?_
        simp (disch := omega) only [ny_upne, ny_cpne]
        rw [a1 _ (by omega) (by omega)]
      · refine b3.trans ?_
        simp (disch := omega) only [ny_upne, ny_cpne]
        rw [a1 _ (by omega) (by omega)]
    · rw [c1 _ (by omega)]
      refine ((b4 j (by omega)).1).trans ?_
      simp (disch := omega) only [ny_upne, ny_cpne]
      rw [a1 _ (by omega) (by omega)]
    · rw [c1 _ (by omega)]
      refine ((b4 j (by omega)).2.1).trans ?_
      simp (disch := omega) only [ny_upne, ny_cpne]
      rw [a1 _ (by omega) (by omega)]
    · rw [c1 _ (by omega)]
      refine ((b4 j (by omega)).2.2).trans ?_
      simp (disch := omega) only [ny_upne, ny_cpne]
      rw [a1 _ (by omega) (by omega)]
    · rw [c1 _ (by omega)]
      refine ((b5 j (by omega)).1).trans ?_
      simp (disch := omega) only [ny_upne, ny_cpne]
      rw [a1 _ (by omega) (by omega)]
    · rw [c1 _ (by omega)]
      refine ((b5 j (by omega)).2.1).trans ?_
      simp (disch := omega) only [ny_upne, ny_cpne]
      rw [a1 _ (by omega) (by omega)]
    · rw [c1 _ (by omega)]
      refine ((b5 j (by omega)).2.2).trans ?_
      simp (disch := omega) only [ny_upne, ny_cpne]
      rw [a1 _ (by omega) (by omega)]
    · rw [c1 _ (by omega)]
      refine (b6 j (by omega)).trans ?_
      simp (disch := omega) only [ny_upne, ny_cpne]
      rw [a1 _ (by omega) (by omega)]
    · have hj : j = 0 := by omega
      subst hj
      refine c2.trans ?_
      rw [b1 _ (by omega)]
      simp (disch := omega) only [ny_upne, ny_cpne]
      rw [a1 _ (by omega) (by omega)]
    · refine ((c3 j (by omega)).1).trans ?_
      rw [b1 _ (by omega)]
      simp (disch := omega) only [ny_upne, ny_cpne]
      rw [a1 _ (by omega) (by omega)]
    · refine ((c3 j (by omega)).2.1).trans ?_
      rw [b1 _ (by omega)]
      simp (disch := omega) only [ny_upne, ny_cpne]
      rw [a1 _ (by omega) (by omega)]
    · refine ((c3 j (by omega)).2.2.1).trans ?_
      rw [b1 _ (by omega)]
      simp (disch := omega) only [ny_upne, ny_cpne]
      rw [a1 _ (by omega) (by omega)]
    · refine ((c3 j (by omega)).2.2.2).trans ?_
      rw [b1 _ (by omega)]
      simp (disch := omega) only [ny_upne, ny_cpne]
      rw [a1 _ (by omega) (by omega)]
/-- the kept basin, read as the basin is -/
def ny_sh (I : ny_I) : ny_I := fun q => if q = 1 then I 1 else I (q + 24)
theorem q_No_keep (hC : ny_Cl I a) (hV : ny_V a) (h : ∀ I', (∀ q, q ≠ 5 → ¬ (30 ≤ q ∧ q ≤ 51) → I' q = I q) → (∀ j, j ≠ 2 → I' 5 j = I 5 j) → I' 5 2 = nI 1 → ny_Cl (ny_sh I') a → Q (nI 1) I') : ny_C1 (d + 2) m_No_keep [.ref 5] Ln I Q := by
  refine s_No_keep_0 (q_Ba_bk fun I1 h1 h2 => h _ (fun q x y => by rw [ny_upne _ x]; exact h1 q (by omega)) (fun j hj => ?_) ?_ (nz_Cl_k hV ?_ (fun q j r => ?_) hC))
  · simp (disch := omega) only [ny_uprd, if_neg]; rw [h1 5 (by omega)]
  · simp (disch := omega) only [ny_uprd, if_true, and_self]; rfl
  · show ny_up I1 5 2 1 1 = I 1
    rw [ny_upne _ (by decide)]; exact h1 1 (by omega)
  · have hq : 6 ≤ q ∧ q ≤ 27 := by unfold nz_rq at r; omega
    show (if q = 1 then ny_up I1 5 2 1 1 else ny_up I1 5 2 1 (q + 24)) j = _
    rw [if_neg (by omega), ny_upne _ (by omega)]
    exact h2 q j r
theorem q_No_again {b : ny_a} (hV : ny_V b) (hb : I 1 = ny_ab) (h0 : I 5 2 = nI 0 → Q (nI 4294967293) I) (hK : ¬ I 5 2 = nI 0 → ny_Cl (ny_sh I) b) (h1 : ¬ I 5 2 = nI 0 → ∀ I', (∀ q, ¬ (6 ≤ q ∧ q ≤ 27) → I' q = I q) → ny_Cl I' b → Q (nI (b 0)) I') : ny_C1 (d + 2) m_No_again [.ref 5] Ln I Q := by
  refine s_No_again_0 ⟨fun c => q_Ba_ba fun I1 g1 g2 => ?_, fun c => by rw [ny_m3]; exact h0 c⟩
  have hC : ny_Cl I1 b := nz_Cl_k hV (by rw [g1 1 (by omega)]; rfl) (fun q j r => by
    have hq : 6 ≤ q ∧ q ≤ 27 := by unfold nz_rq at r; omega
    show _ = (if q = 1 then I 1 else I (q + 24)) j
    rw [if_neg (by omega)]
    exact g2 q j r) (hK c)
  have := h1 c I1 g1 hC
  rw [hC.1.1.1]; exact this
theorem q_Md_keep (ha : ny_Md I a) (h : ∀ I', (∀ q, q ≠ 102 → q ≠ 104 → I' q = I q) → (∀ j, j ≠ 2 → I' 102 j = I 102 j) → I' 102 2 = nI 1 → (∀ j, j < 572 → I' 104 j = nI (a j)) → Q (nI 1) I') : ny_C1 d m_Md_keep [.ref 102] Ln I Q := by
  have key : ∀ n k (I1 : ny_I), k + n = 572 → (∀ q, q ≠ 104 → I1 q = I q) → (∀ j, j < k → I1 104 j = nI (a j)) → ny_g d m_Md_keep 2 [(0, .ref 102), (1, .int (nI k))] [] Ln I1 (ny_r1 Ln Q) := by
    intro n
    induction n with
    | zero =>
      intro k I1 hk hc hj
      refine s_Md_keep_2 ?_
      simp (disch := omega) only [ny_lit, nI_add, ny_mul, nI_clamp, ny_le, ny_lt, ny_eq, ny_div, ny_rem, ny_rem2, ny_inN]
      refine ⟨fun _ => h _ (fun q x y => by rw [ny_upne _ x]; exact hc q y) (fun j hj2 => ?_) ?_ fun j hj2 => ?_, fun q => absurd q (by omega)⟩
      · simp (disch := omega) only [ny_uprd, if_neg]; rw [hc 102 (by decide)]
      · simp (disch := omega) only [ny_uprd, if_true, and_self]
      · rw [ny_upne _ (by decide)]; exact hj j (by omega)
    | succ n ih =>
      intro k I1 hk hc hj
      refine s_Md_keep_2 ?_
      have e : I1 103 k = nI (a k) := by rw [hc 103 (by decide)]; exact ha k
      simp (disch := omega) only [ny_lit, nI_add, ny_mul, nI_clamp, ny_le, ny_lt, ny_eq, ny_div, ny_rem, ny_rem2, ny_inN, true_and, e]
      refine ⟨fun q => absurd q (by omega), fun _ => ih (k + 1) _ (by omega) (fun q x => by rw [ny_upne _ x]; exact hc q x) fun j hj2 => ?_⟩
      rw [ny_upeq]
      unfold upd
      by_cases c : j = k
      · rw [if_pos c, c]
      · rw [if_neg c]; exact hj j (by omega)
  exact s_Md_keep_0 (key 572 0 I rfl (fun _ _ => rfl) (fun j hj => absurd hj (by omega)))
theorem q_Md_again {b : ny_a} (ha : ny_Md I a) (h0 : I 102 2 = nI 0 → Q (nI 4294967293) I) (hK : ¬ I 102 2 = nI 0 → ∀ j, j < 572 → I 104 j = nI (b j)) (hs : ∀ j, 572 ≤ j → b j = a j) (h1 : ¬ I 102 2 = nI 0 → ∀ I', (∀ q, q ≠ 103 → I' q = I q) → ny_Md I' b → Q (nI (b 0)) I') : ny_C1 d m_Md_again [.ref 102] Ln I Q := by
  refine s_Md_again_0 ⟨fun c => ?_, fun c => by rw [ny_m3]; exact h0 c⟩
  have key : ∀ n k (I1 : ny_I), k + n = 572 → (∀ q, q ≠ 103 → I1 q = I q) → (∀ j, j < k → I1 103 j = nI (b j)) → (∀ j, k ≤ j → I1 103 j = I 103 j) → ny_g d m_Md_again 12 [(0, .ref 102), (1, .int (nI k))] [] Ln I1 (ny_r1 Ln Q) := by
    intro n
    induction n with
    | zero =>
      intro k I1 hk hc hj hj2
      have hM : ny_Md I1 b := fun j => by
        rcases Nat.lt_or_ge j k with q | q
        · exact hj j q
        · rw [hj2 j q, hs j (by omega)]; exact ha j
      refine s_Md_again_12 ?_
      simp (disch := omega) only [ny_lit, nI_add, ny_mul, nI_clamp, ny_le, ny_lt, ny_eq, ny_div, ny_rem, ny_rem2, ny_inN, hM 0, true_and]
      exact ⟨fun _ => h1 c I1 hc hM, fun q => absurd q (by omega)⟩
    | succ n ih =>
      intro k I1 hk hc hj hj2
      have e : I1 104 k = nI (b k) := by rw [hc 104 (by decide)]; exact hK c k (by omega)
      refine s_Md_again_12 ?_
      simp (disch := omega) only [ny_lit, nI_add, ny_mul, nI_clamp, ny_le, ny_lt, ny_eq, ny_div, ny_rem, ny_rem2, ny_inN, true_and, e]
      refine ⟨fun q => absurd q (by omega), fun _ => ih (k + 1) _ (by omega) (fun q x => by rw [ny_upne _ x]; exact hc q x) (fun j hj3 => ?_) fun j hj3 => ?_⟩
      · rw [ny_upeq]
        unfold upd
        by_cases c : j = k
        · rw [if_pos c, c]
        · rw [if_neg c]; exact hj j (by omega)
      · rw [ny_upeq]
        unfold upd
        rw [if_neg (by omega)]; exact hj2 j (by omega)
  exact key 572 0 I rfl (fun _ _ => rfl) (fun j hj => absurd hj (by omega)) (fun _ _ => rfl)
theorem q_Md_size {m : Nat} (hm : m < 64) (h : Q (nI (nz_bc 6 m)) I) : ny_C1 d m_Md_size [.int (nI m)] Ln I Q := by
  have key : ∀ f m c, m < 64 → nz_it f m = 0 → Q (nI (c + nz_bc f m)) I → ny_g d m_Md_size 4 [(1, .int (nI c)), (2, .int (nI m))] [] Ln I (ny_r1 Ln Q) := by
    intro f
    induction f with
    | zero =>
      intro m c hm hi hQ
      have : m = 0 := hi
      subst this
      exact s_Md_size_4 ⟨fun _ => hQ, fun q => absurd rfl q⟩
    | succ f ih =>
      intro m c hm hi hQ
      obtain ⟨s1, s2⟩ := nz_it_s m hm
      refine s_Md_size_4 ?_
      rw [s1, nI_1]
      refine ⟨fun c0 => ?_, fun c0 => ?_⟩
      · have : m = 0 := (ny_eq (b := 0) (by omega) (by decide)).mp c0
        rw [nz_bc, if_pos this] at hQ; exact hQ
      · have : m ≠ 0 := fun q => c0 (by rw [q]; rfl)
        rw [nz_bc, if_neg this, ← Nat.add_assoc] at hQ
        exact ih _ (c + 1) s2 hi hQ
  refine s_Md_size_0 (key 6 m 0 hm (nz_it_6 m hm) ?_)
  rw [Nat.zero_add]; exact h
theorem q_Md_many {x : Int32} {n taped : Nat} {r : nz_rw} {tr : nz_tr} (ha : ny_Md I a) (hV : ny_V a) (hR : ny_RM I n r) (hP : I 102 5 = nI taped) (hT : nz_qM I tr) (h : Q (o_many x a n taped tr) I) : ny_C1 (d + 2) m_Md_many [.ref 102, .int x] Ln I Q := by
  have so : ∀ w, w ≤ 6 → x = nI w → o_many x a n taped tr = if w = 0 then nI (a 0) else if w = 1 then nI (a 5) else if w = 2 then nI (nz_bc 6 (nz_msk (nz_L a))) else if w = 3 then nI (a 6) else if w = 4 then nI n else if w = 5 then nI taped else nI (min 30 tr.1) := by
    intro w hw e
    simp only [o_many, nz_in_s (l := 0) (n := 6) (by decide) (by decide) (by omega) hw e]
  refine s_Md_many_0 ⟨fun c => ⟨rfl, ?_⟩, fun c => ⟨rfl, ?_⟩, fun c => ?_, fun c => ⟨rfl, ?_⟩, fun c => ?_, fun c => ?_, fun c => ?_, fun c0 c1 c2 c3 c4 c5 c6 => ?_⟩
  · rw [so 0 (by decide) c] at h; rw [show I 103 (Int32.toNatClampNeg 0) = nI (a 0) from ha 0]; exact h
  · rw [so 1 (by decide) c] at h; rw [show I 103 (Int32.toNatClampNeg 5) = nI (a 5) from ha 5]; exact h
  · rw [so 2 (by decide) c] at h
    exact q_Md_relievedOnes (d := d) ha hV (q_Md_size (nz_msk_k _).1 h)
  · rw [so 3 (by decide) c] at h; rw [show I 103 (Int32.toNatClampNeg 6) = nI (a 6) from ha 6]; exact h
  · rw [so 4 (by decide) c] at h; rw [hR.1]; exact h
  · rw [so 5 (by decide) c] at h; rw [hP]; exact h
  · rw [so 6 (by decide) c] at h; rw [hT.1]; exact h
  · have : nz_in 0 6 x = none := by
      refine nz_in_n (by decide) (by decide) fun m _ hm e => ?_
      have hcs : m = 0 ∨ m = 1 ∨ m = 2 ∨ m = 3 ∨ m = 4 ∨ m = 5 ∨ m = 6 := by omega
      rcases hcs with rfl | rfl | rfl | rfl | rfl | rfl | rfl
      · exact c0 e
      · exact c1 e
      · exact c2 e
      · exact c3 e
      · exact c4 e
      · exact c5 e
      · exact c6 e
    simp only [o_many, this] at h
    rw [ny_m1]; exact h
theorem q_No_many {x : Int32} {n taped : Nat} {r : nz_rw} {tr : nz_tr} (hC : ny_Cl I a) (hV : ny_V a) (hR : ny_RC I n r) (hP : I 54 1 = nI taped) (hT : nz_qC I tr) (h : Q (o_many x a n taped tr) I) : ny_C1 (d + 2) m_No_many [.ref 5, .int x] Ln I Q := by
  have so : ∀ w, w ≤ 6 → x = nI w → o_many x a n taped tr = if w = 0 then nI (a 0) else if w = 1 then nI (a 5) else if w = 2 then nI (nz_bc 6 (nz_msk (nz_L a))) else if w = 3 then nI (a 6) else if w = 4 then nI n else if w = 5 then nI taped else nI (min 30 tr.1) := by
    intro w hw e
    simp only [o_many, nz_in_s (l := 0) (n := 6) (by decide) (by decide) (by omega) hw e]
  refine s_No_many_0 ⟨fun c => ?_, fun c => ?_, fun c => ?_, fun c => ?_, fun c => ?_, fun c => ?_, fun c => ?_, fun c0 c1 c2 c3 c4 c5 c6 => ?_⟩
  · rw [so 0 (by decide) c] at h; rw [hC.1.1.1]; exact h
  · rw [so 1 (by decide) c] at h; rw [hC.1.2.2.2.2.1.1]; exact h
  · rw [so 2 (by decide) c] at h
    obtain ⟨m1, m2, m, m3, m4, m5⟩ := hC.2.1
    rw [m4]
    refine s_Ji_bitCount_0 ?_
    show Q (nz_bcx (nI m)) I
    rw [nz_bcx_e m m3, nz_msk_e (s := nz_L a) ⟨m3, fun q hq => m5 q hq⟩]; exact h
  · rw [so 3 (by decide) c] at h; rw [hC.2.2.2.1]; exact h
  · rw [so 4 (by decide) c] at h; rw [hR.1]; exact h
  · rw [so 5 (by decide) c] at h; rw [hP]; exact h
  · rw [so 6 (by decide) c] at h; rw [hT.1]; exact h
  · have : nz_in 0 6 x = none := by
      refine nz_in_n (by decide) (by decide) fun m _ hm e => ?_
      have hcs : m = 0 ∨ m = 1 ∨ m = 2 ∨ m = 3 ∨ m = 4 ∨ m = 5 ∨ m = 6 := by omega
      rcases hcs with rfl | rfl | rfl | rfl | rfl | rfl | rfl
      · exact c0 e
      · exact c1 e
      · exact c2 e
      · exact c3 e
      · exact c4 e
      · exact c5 e
      · exact c6 e
    simp only [o_many, this] at h
    rw [ny_m1]; exact h
end NZKE
