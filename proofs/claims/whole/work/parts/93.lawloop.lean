/-! the law's loop: its head, its ends -/
section NYLP
variable {i Ln : Nat} {I : ny_I}
set_option maxRecDepth 100000 in
theorem u_end : ny_h 1761 i [] Ln I := ny_hb 1215 1 (ny_Hret k_Lw_law (i := 1216) rfl)
set_option maxRecDepth 100000 in
theorem u_next (h : ny_h 18 (i + 5) [] Ln I) : ny_h 1755 i [] Ln I := by
  refine ny_hb 1213 1 ?_
  show ny_H 1301 600000 7302250 m_Lw_law 1758 [(0, .ref 0), (1, .ref 5), (2, .ref 102), (3, .int (nI i + 5))] [] (ny_KK Ln) I ny_RR 115 6283
  rw [show nI i + 5 = nI (i + 5) from nI_add i 5]
  exact ny_Hgoto k_Lw_law (i := 1214) (tgt := 18) rfl rfl h
theorem u_and63 (x : Int32) : ∃ k, k < 64 ∧ x &&& 63 = nI k := by
  refine ⟨(x &&& 63).toBitVec.toNat, ?_, ?_⟩
  · have : (x &&& 63).toBitVec = x.toBitVec &&& 63#32 := rfl
    rw [this, BitVec.toNat_and]
    exact Nat.lt_of_le_of_lt Nat.and_le_right (by decide)
  · apply Int32.toBitVec_inj.mp
    show (x &&& 63).toBitVec = BitVec.ofNat 32 _
    rw [BitVec.ofNat_toNat, BitVec.setWidth_eq]
set_option maxRecDepth 100000 in
theorem u_head (hL : Ln ≤ 2560) (hi : i ≤ 2565) (h : i + 5 ≤ Ln → ∀ k, k < 64 → I 0 i &&& 63 = nI k → ny_h 32 i [.int (nI k)] Ln I) : ny_h 18 i [] Ln I := by
  refine ny_hb 10 5 (And.intro rfl (show ny_h 23 i [.int (nI Ln - 5), .int (nI i)] Ln I from ny_Hicmp_gt k_Lw_law (i := 15) (tgt := 1761) rfl rfl (fun _ => u_end) (fun c => ?_)))
  have hle : i + 5 ≤ Ln := by
    refine Classical.byContradiction fun q => c ?_
    rcases Nat.lt_or_ge Ln 5 with x | x
    · have h0 : nI Ln - 5 < 0 := by
        have : ∀ n, n < 5 → nI n - 5 < 0 := by decide +kernel
        exact this Ln x
      have h1 : (0 : Int32) ≤ nI i := (ny_le (a := 0) (by decide) (by omega)).mpr (by omega)
      exact Int32.lt_of_lt_of_le h0 h1
    · rw [show nI Ln - 5 = nI (Ln - 5) from pk_sub (b := 5) x]
      exact (ny_lt (by omega) (by omega)).mpr (by omega)
  obtain ⟨k, k1, k2⟩ := u_and63 (I 0 i)
  have hk := h hle k k1 k2
  refine ny_hb 16 5 (And.intro (show ny_ar (ny_KK Ln) 1 0 (nI i) = true from ny_inN (by omega) (by omega)) ?_)
  show ny_h 32 i [.int (I 0 (nI i).toNatClampNeg &&& 63)] Ln I
  rw [nI_clamp (by omega), k2]
  exact hk
set_option maxRecDepth 100000 in
theorem u_out {k : Nat} (hk : k < 64) (h51 : 51 ≤ k) (h : ny_h 1755 i [] Ln I) : ny_h 32 i [.int (nI k)] Ln I := by
  have : ∀ k, k < 64 → 51 ≤ k → 50 < (nI k).toInt := by decide +kernel
  exact ny_Htabout k_Lw_law (i := 21) rfl (Or.inr (this k hk h51)) rfl h
set_option maxRecDepth 100000 in
theorem u_in {k : Nat} {off : Int} {tgt : Nat} (hk : k < 51) (ho : (#[220, 273, 306, 349, 382, 415, 458, 491, 514, 527, 550, 613, 626, 639, 662, 685, 708, 731, 754, 777, 800, 843, 866, 899, 922, 955, 988, 1011, 1034, 1087, 1100, 1123, 1136, 1159, 1172, 1205, 1228, 1261, 1304, 1317, 1360, 1403, 1446, 1489, 1532, 1575, 1608, 1651, 1674, 1697, 1710] : Array Int)[k]? = some off) (ht : (32 : Int) + off = (tgt : Int)) (h : ny_h tgt i [] Ln I) : ny_h 32 i [.int (nI k)] Ln I := by
  have e : ∀ k, k < 51 → ¬ (nI k).toInt < 0 ∧ ¬ 50 < (nI k).toInt ∧ ((nI k).toInt - 0).toNat = k := by decide +kernel
  obtain ⟨e1, e2, e3⟩ := e k hk
  exact ny_Htabin k_Lw_law (i := 21) rfl e1 e2 (by rw [e3]; exact ho) ht h
end NYLP
