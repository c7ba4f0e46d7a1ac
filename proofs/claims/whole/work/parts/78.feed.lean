/-! both: feed -/
def nt_sb (n : Nat) : Int32 := (nI n).toInt8.toInt32
def nt_by (e : Int64) (k : Nat) : Nat := uN e / 2 ^ (8 * k) % 256
def nt_V (T : Nat) (b : Nat → Nat) : Prop := T ≤ 200 ∧ ∀ j, j < T → b j < 256
def nt_M (I : ny_I) (T : Nat) (b : Nat → Nat) : Prop := I 102 5 = nI T ∧ ∀ j, j < T → I 106 j = nI (b j)
def nt_C (I : ny_I) (T : Nat) (b : Nat → Nat) : Prop := I 54 1 = nI T ∧ ∀ j, j < T → I 55 j = nt_sb (b j)
def nt_ad (T : Nat) (b : Nat → Nat) (e : Int64) : Nat → Nat := fun j => if j < T then b j else nt_by e (j - T)
def o_feed (e : Int64) (x : Int32) (T : Nat) (b : Nat → Nat) : Int32 × Nat × (Nat → Nat) := match nz_in 1 8 x with
  | none => (nI 4294967295, T, b)
  | some n => if 200 < T + n then (nI 4294967294, T, b) else (nI (T + n), T + n, nt_ad T b e)
theorem nt_tr (y : Int64) : y.toInt32.toInt8.toInt32 = nt_sb (uN y % 256) := by
  unfold nt_sb
  congr 1
  apply Int8.toBitVec_inj.mp
  rw [Int32.toBitVec_toInt8, Int32.toBitVec_toInt8]
  apply BitVec.eq_of_getLsbD_eq
  intro i hi
  rw [BitVec.getLsbD_signExtend, BitVec.getLsbD_signExtend, if_pos (by omega), if_pos (by omega), Int64.toBitVec_toInt32, BitVec.getLsbD_signExtend, if_pos (by omega)]
  show _ = (decide (i < 8) && (BitVec.ofNat 32 (uN y % 256)).getLsbD i)
  rw [BitVec.getLsbD_ofNat, show (256 : Nat) = 2 ^ 8 from rfl, Nat.testBit_mod_two_pow]
  have : decide (i < 32) = true := by rw [decide_eq_true_eq]; omega
  rw [this, decide_eq_true hi]
  show _ = (true && (true && (true && y.toBitVec.toNat.testBit i)))
  rw [BitVec.testBit_toNat]
  simp
theorem nt_i8 (y : Int32) : y.toInt8.toInt32.toInt8.toInt32 = y.toInt8.toInt32 := by simp
theorem nt_m255 (y : Int64) : (y &&& 255).toInt32 = nI (uN y % 256) := by
  apply Int32.toBitVec_inj.mp
  rw [Int64.toBitVec_toInt32]
  apply BitVec.eq_of_getLsbD_eq
  intro i hi
  rw [BitVec.getLsbD_signExtend, if_pos (by omega), Int64.toBitVec_and, BitVec.getLsbD_and]
  show _ = (BitVec.ofNat 32 (uN y % 256)).getLsbD i
  rw [BitVec.getLsbD_ofNat, show (256 : Nat) = 2 ^ 8 from rfl, Nat.testBit_mod_two_pow]
  have hm : ∀ i < 32, (255 : Int64).toBitVec.getLsbD i = decide (i < 8) := by decide +kernel
  rw [hm i hi]
  show _ = (decide (i < 32) && (decide (i < 8) && y.toBitVec.toNat.testBit i))
  rw [BitVec.testBit_toNat]
  have : decide (i < 32) = true := by rw [decide_eq_true_eq]; omega
  rw [this]
  cases decide (i < 8) <;> cases y.toBitVec.getLsbD i <;> simp [hi]
theorem nt_wbs : ∀ k, k < 8 → (((nI (8 * k)).toInt64 &&& 63).toBitVec.smod 64).toNat = 8 * k := by decide +kernel
theorem nt_mod (e : Int64) {k : Nat} (hk : k < 8) : ((e >>> ((nI (8 * k)).toInt64 &&& 63)) &&& 255).toInt32 = nI (nt_by e k) := by
  rw [nt_m255]
  congr 1
  unfold nt_by
  apply Nat.eq_of_testBit_eq
  intro i
  rw [show (256 : Nat) = 2 ^ 8 from rfl, Nat.testBit_mod_two_pow, Nat.testBit_mod_two_pow]
  by_cases hi : i < 8
  · rw [decide_eq_true hi, Bool.true_and, Bool.true_and]
    show (e >>> ((nI (8 * k)).toInt64 &&& 63)).toBitVec.toNat.testBit i = _
    rw [BitVec.testBit_toNat, Int64.toBitVec_shiftRight]
    show (e.toBitVec.sshiftRight (((nI (8 * k)).toInt64 &&& 63).toBitVec.smod 64).toNat).getLsbD i = _
    rw [nt_wbs k hk, BitVec.getLsbD_sshiftRight, Nat.testBit_div_two_pow]
    show _ = e.toBitVec.toNat.testBit (i + 8 * k)
    rw [BitVec.testBit_toNat]
    have h1 : ¬ 64 ≤ i := by omega
    have h2 : 8 * k + i < 64 := by omega
    simp [h1, h2, Nat.add_comm]
    intro q; omega
  · rw [decide_eq_false hi]; rfl
theorem nt_cls (e : Int64) {k : Nat} (hk : k < 8) : (((e.toUInt64 >>> ((nI (8 * k)).toInt64.toUInt64 &&& Int64.toUInt64 63)).toInt64).toInt32).toInt8.toInt32 = nt_sb (nt_by e k) := by
  rw [nt_tr, uN_sk e (by omega)]
  rfl
theorem nt_by_lt (e : Int64) (k : Nat) : nt_by e k < 256 := Nat.mod_lt _ (by decide)
theorem nt_ad_V {T n : Nat} {b : Nat → Nat} {e : Int64} (h : nt_V T b) (hn : T + n ≤ 200) : nt_V (T + n) (nt_ad T b e) := by
  refine ⟨hn, fun j hj => ?_⟩
  unfold nt_ad
  split
  · exact h.2 j (by assumption)
  · exact nt_by_lt _ _
section NZFD
variable {d Ln : Nat} {I : ny_I} {Q : Int32 → ny_I → Prop} {Q0 : ny_I → Prop} {T : Nat} {b : Nat → Nat}
theorem q_Md_feed {e : Int64} {x : Int32} (hM : nt_M I T b) (hV : nt_V T b) (h : ∀ I', (∀ c, c ≠ 102 → c ≠ 106 → I' c = I c) → (∀ j, j ≠ 5 → I' 102 j = I 102 j) → nt_M I' (o_feed e x T b).2.1 (o_feed e x T b).2.2 → Q (o_feed e x T b).1 I') : ny_C1 (d + 1) m_Md_feed [.ref 102, .long e, .int x] Ln I Q := by
  have v := hV.1
  refine s_Md_feed_0 (q_Md_I 1 8 rfl rfl (by decide) (by decide) (fun n en hn1 hn ex => ⟨fun _ => ?_, fun q => absurd q (by decide)⟩) fun en => ⟨fun q => absurd rfl q, fun _ => ?_⟩)
  · subst ex
    simp only [o_feed, en] at h
    rw [hM.1, nI_add, ny_lit, ny_le (by omega) (by decide)]
    refine ⟨fun c => ?_, fun c => ?_⟩
    · have c : T + n ≤ 200 := c
      rw [if_neg (by omega)] at h
      have key : ∀ m k (I1 : ny_I), k + m = n → (∀ c, c ≠ 102 → c ≠ 106 → I1 c = I c) → (∀ j, j ≠ 5 → I1 102 j = I 102 j) → nt_M I1 (T + k) (nt_ad T b e) → ny_g (d + 1) m_Md_feed 32 [(0, .ref 102), (1, .long e), (3, .int (nI n)), (4, .int (nI k))] [] Ln I1 (ny_r1 Ln Q) := by
        intro m
        induction m with
        | zero =>
          intro k I1 hk h1 h2 h3
          refine s_Md_feed_32 ?_
          rw [ny_le (by omega) (by omega), h3.1]
          rw [show k = n by omega] at h3 ⊢
          exact ⟨fun _ => h I1 h1 h2 h3, fun q => absurd (Nat.le_refl _) q⟩
        | succ m ih =>
          intro k I1 hk h1 h2 h3
          refine s_Md_feed_32 ?_
          have e8 : (8 : Int32) * nI k = nI (8 * k) := ny_mul 8 k
          rw [ny_le (by omega) (by omega), h3.1, nI_clamp (by omega), e8, nt_mod e (by omega), nI_1]
          refine ⟨fun q => absurd q (by omega), fun _ => ⟨ny_inN (by omega) (by decide), ?_⟩⟩
          rw [show ny_up I1 106 (T + k) (nI (nt_by e k)) 102 5 = nI (T + k) by rw [ny_upne _ (by decide)]; exact h3.1, nI_1]
          refine ih (k + 1) _ (by omega) (fun c x y => by rw [ny_upne _ x, ny_upne _ y]; exact h1 c x y) (fun j hj => ?_) ⟨?_, fun j hj => ?_⟩
          · simp (disch := omega) only [ny_uprd, if_neg]; exact h2 j hj
          · simp (disch := omega) only [ny_uprd, if_true, and_self]; rfl
          · rw [ny_upne _ (by decide), ny_upeq]
            unfold upd
            by_cases ej : j = T + k
            · rw [if_pos ej]
              unfold nt_ad
              rw [if_neg (by omega), show j - T = k by omega]
            · rw [if_neg ej]; exact h3.2 j (by omega)
      refine key n 0 I (by omega) (fun _ _ _ => rfl) (fun _ _ => rfl) ⟨hM.1, fun j hj => ?_⟩
      unfold nt_ad
      rw [if_pos (by omega)]; exact hM.2 j hj
    · have c : ¬ T + n ≤ 200 := c
      rw [if_pos (by omega)] at h
      rw [ny_m2]; exact h I (fun _ _ _ => rfl) (fun _ _ => rfl) hM
  · simp only [o_feed, en] at h
    rw [ny_m1]; exact h I (fun _ _ _ => rfl) (fun _ _ => rfl) hM
theorem q_No_feed {e : Int64} {x : Int32} (hM : nt_C I T b) (hV : nt_V T b) (h : ∀ I', (∀ c, c ≠ 54 → c ≠ 55 → I' c = I c) → nt_C I' (o_feed e x T b).2.1 (o_feed e x T b).2.2 → Q (o_feed e x T b).1 I') : ny_C1 (d + 1) m_No_feed [.ref 5, .long e, .int x] Ln I Q := by
  have v := hV.1
  refine s_No_feed_0 (q_No_I 1 8 rfl rfl (by decide) (by decide) (fun n en hn1 hn ex => ⟨fun _ => ?_, fun q => absurd q (by decide)⟩) fun en => ⟨fun q => absurd rfl q, fun _ => ?_⟩)
  · subst ex
    simp only [o_feed, en] at h
    refine s_Ta_takes_0 ?_
    rw [hM.1, nI_add, ny_lit, ny_le (by omega) (by decide)]
    refine ⟨fun c => ?_, fun c => ?_⟩
    · have c : T + n ≤ 200 := c
      rw [if_neg (by omega)] at h
      have key : ∀ m k (I1 : ny_I), k + m = n → (∀ c, c ≠ 54 → c ≠ 55 → I1 c = I c) → nt_C I1 (T + k) (nt_ad T b e) → ny_g d m_Ta_takes 17 [(0, .ref 54), (1, .long e), (3, .int (nI n)), (4, .int (nI k))] [] Ln I1 (ny_r1 Ln fun r I' => (r = 0 → Q (-2) I') ∧ (¬ r = 0 → Q (I' 54 1) I')) := by
        intro m
        induction m with
        | zero =>
          intro k I1 hk h1 h3
          refine s_Ta_takes_17 ?_
          rw [ny_le (by omega) (by omega), h3.1]
          rw [show k = n by omega] at h3 ⊢
          exact ⟨fun _ => ⟨fun q => absurd q (by decide), fun _ => h I1 h1 h3⟩, fun q => absurd (Nat.le_refl _) q⟩
        | succ m ih =>
          intro k I1 hk h1 h3
          refine s_Ta_takes_17 ?_
          have e8 : (8 : Int32) * nI k = nI (8 * k) := ny_mul 8 k
          rw [ny_le (by omega) (by omega), h3.1, nI_clamp (by omega), e8, nt_i8, nt_cls e (by omega), nI_1]
          refine ⟨fun q => absurd q (by omega), fun _ => ⟨ny_inN (by omega) (by decide), ?_⟩⟩
          rw [show ny_up I1 55 (T + k) (nt_sb (nt_by e k)) 54 1 = nI (T + k) by rw [ny_upne _ (by decide)]; exact h3.1, nI_1]
          refine ih (k + 1) _ (by omega) (fun c x y => by rw [ny_upne _ x, ny_upne _ y]; exact h1 c x y) ⟨?_, fun j hj => ?_⟩
          · simp (disch := omega) only [ny_uprd, if_true, and_self]; rfl
          · rw [ny_upne _ (by decide), ny_upeq]
            unfold upd
            by_cases ej : j = T + k
            · rw [if_pos ej]
              unfold nt_ad
              rw [if_neg (by omega), show j - T = k by omega]
            · rw [if_neg ej]; exact h3.2 j (by omega)
      refine key n 0 I (by omega) (fun _ _ _ => rfl) ⟨hM.1, fun j hj => ?_⟩
      unfold nt_ad
      rw [if_pos (by omega)]; exact hM.2 j hj
    · have c : ¬ T + n ≤ 200 := c
      rw [if_pos (by omega)] at h
      exact ⟨fun _ => by rw [ny_m2]; exact h I (fun _ _ _ => rfl) hM, fun q => absurd rfl q⟩
  · simp only [o_feed, en] at h
    rw [ny_m1]; exact h I (fun _ _ _ => rfl) hM
end NZFD
