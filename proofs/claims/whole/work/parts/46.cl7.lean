/-! the class: on, when, faints, the best grace, the best niche, rank -/
theorem ny_m3 : (-3 : Int32) = nI 4294967293 := by decide +kernel
section NZNO
variable {d Ln : Nat} {I : ny_I} {Q : Int32 → ny_I → Prop} {Q0 : ny_I → Prop} {a : ny_a} {c : Nat}
theorem q_No_isBetween {x y z : Int32} (h1 : y ≤ x → x ≤ z → Q (nI 1) I) (h0 : ¬ (y ≤ x ∧ x ≤ z) → Q (nI 0) I) : ny_C1 d m_No_isBetween [.int x, .int y, .int z] Ln I Q := by
  refine s_No_isBetween_0 ?_
  exact ⟨fun c => h0 fun q => absurd c (Int32.not_lt.mpr q.1), fun c => ⟨fun c2 => h0 fun q => absurd c2 (Int32.not_lt.mpr q.2), fun c2 => h1 (Int32.not_lt.mp c) (Int32.not_lt.mp c2)⟩⟩
/-- a number is in a range of small ones -/
theorem q_No_in {x : Int32} {l n : Nat} {y z : Int32} (hy : y = nI l) (hz : z = nI n) (hl : l < 2 ^ 31) (hn : n < 2 ^ 31) (h1 : ∀ m, l ≤ m → m ≤ n → x = nI m → Q (nI 1) I) (h0 : (∀ m, l ≤ m → m ≤ n → x ≠ nI m) → Q (nI 0) I) : ny_C1 d m_No_isBetween [.int x, .int y, .int z] Ln I Q := by
  subst hy hz
  refine q_No_isBetween (fun c1 c2 => ?_) fun c => h0 fun m a b e => c ((nz_i32 hl hn).mpr ⟨m, a, b, e⟩)
  obtain ⟨m, a, b, e⟩ := (nz_i32 hl hn).mp ⟨c1, c2⟩
  exact h1 m a b e
theorem q_No_on {x : Int32} (hB : ny_Ba I a) (hM : ny_Mo I 7 a) (hV : ny_V a) (h1 : ∀ n, n ≤ 16 → x = nI n → ∀ I', nz_fr 28 I' I → Q (nI (nz_onw a n)) I') (h0 : (∀ n, n ≤ 16 → x ≠ nI n) → Q (nI 4294967295) I) : ny_C1 (d + 6) m_No_on [.ref 5, .int x] Ln I Q := by
  refine s_No_on_0 (q_No_in (l := 0) (n := 16) rfl rfl (by decide) (by decide) (fun n _ hn e => ?_) fun c => ⟨fun _ => ?_, fun q => absurd rfl q⟩)
  · subst e
    exact ⟨fun q => absurd q (by decide), fun _ => q_Ba_restWorth hB hM hV hn (h1 n hn rfl)⟩
  · rw [ny_m1]
    exact h0 fun n hn => c n (by omega) hn
theorem q_No_when {x : Int32} (hB : ny_Ba I a) (hM : ny_Mo I 7 a) (hV : ny_V a) (h1 : ∀ k, k < a 0 → x = nI k → ∀ I', nz_fr 28 I' I → Q (nz_whn a k) I') (h0 : (∀ k, k < a 0 → ¬ x = nI k) → Q (nI 4294967295) I) : ny_C1 (d + 6) m_No_when [.ref 5, .int x] Ln I Q := by
  refine s_No_when_0 (q_Ba_isFigureX hB hV (fun k hk e => ?_) fun c => ⟨fun _ => by rw [ny_m1]; exact h0 c, fun q => absurd rfl q⟩)
  subst e
  exact ⟨fun q => absurd q (by decide), fun _ => q_Ba_restRelieves hB hM hV hk (h1 k hk rfl)⟩
theorem q_No_faints {x : Int32} (hB : ny_Ba I a) (hM : ny_Mo I 7 a) (hV : ny_V a) (h1 : ∀ k, k < a 0 → x = nI k → ∀ I', nz_fr 28 I' I → Q (nz_fnt a k) I') (h0 : (∀ k, k < a 0 → ¬ x = nI k) → Q (nI 4294967295) I) : ny_C1 (d + 6) m_No_faints [.ref 5, .int x] Ln I Q := by
  refine s_No_faints_0 (q_Ba_isFigureX hB hV (fun k hk e => ?_) fun c => ⟨fun _ => by rw [ny_m1]; exact h0 c, fun q => absurd rfl q⟩)
  subst e
  exact ⟨fun q => absurd q (by decide), fun _ => q_Ba_restFaints hB hM hV hk (h1 k hk rfl)⟩
theorem q_No_graceFor {x : Int32} (hB : ny_Ba I a) (hM : ny_Mo I 7 a) (hV : ny_V a) (h1 : ∀ k, k < a 0 → x = nI k → ∀ I', nz_fr 28 I' I → Q (nI (nz_vfr a (10 + 5 * k) 9)) I') (h0 : (∀ k, k < a 0 → ¬ x = nI k) → Q (nI 4294967295) I) : ny_C1 (d + 7) m_No_graceFor [.ref 5, .int x] Ln I Q := by
  refine s_No_graceFor_0 (q_Ba_isFigureX hB hV (fun k hk e => ?_) fun c => ⟨fun _ => by rw [ny_m1]; exact h0 c, fun q => absurd rfl q⟩)
  subst e
  exact ⟨fun q => absurd q (by decide), fun _ => q_Ba_restBestBy (w := 2) (top := 9) (Or.inl ⟨rfl, rfl, rfl, rfl⟩) hB hM hV hk (h1 k hk rfl)⟩
theorem q_No_nicheFor {x : Int32} (hB : ny_Ba I a) (hM : ny_Mo I 7 a) (hV : ny_V a) (h1 : ∀ k, k < a 0 → x = nI k → ∀ I', nz_fr 28 I' I → Q (nI (nz_vfr a (11 + 5 * k) 5)) I') (h0 : (∀ k, k < a 0 → ¬ x = nI k) → Q (nI 4294967295) I) : ny_C1 (d + 7) m_No_nicheFor [.ref 5, .int x] Ln I Q := by
  refine s_No_nicheFor_0 (q_Ba_isFigureX hB hV (fun k hk e => ?_) fun c => ⟨fun _ => by rw [ny_m1]; exact h0 c, fun q => absurd rfl q⟩)
  subst e
  exact ⟨fun q => absurd q (by decide), fun _ => q_Ba_restBestBy (w := 3) (top := 5) (Or.inr ⟨rfl, rfl, rfl, rfl⟩) hB hM hV hk (h1 k hk rfl)⟩
theorem q_No_rank {x : Int32} (hB : ny_Ba I a) (hM : ny_Mo I 7 a) (hV : ny_V a) (h1 : ∀ k, k < a 0 → x = nI k → Q (if ny_upb a k then nI (nz_rnk a k 0 (a 0)) else nI 4294967293) I) (h0 : (∀ k, k < a 0 → ¬ x = nI k) → Q (nI 4294967295) I) : ny_C1 (d + 3) m_No_rank [.ref 5, .int x] Ln I Q := by
  refine s_No_rank_0 (q_Ba_isFigureX hB hV (fun k hk e => ?_) fun c => ⟨fun q => absurd rfl q, fun _ => by rw [ny_m1]; exact h0 c⟩)
  subst e
  refine ⟨fun _ => q_Ba_isUp (d := d + 1) nz_m7 hB hM hV hk ?_, fun q => absurd q (by decide)⟩
  have h := h1 k hk rfl
  by_cases hu : ny_upb a k = true
  · rw [if_pos hu] at h ⊢
    exact ⟨fun q => absurd q (by decide), fun _ => q_Ba_aheadOf hB hM hV hk h⟩
  · rw [if_neg hu] at h ⊢
    exact ⟨fun _ => by rw [ny_m3]; exact h, fun q => absurd rfl q⟩
end NZNO
