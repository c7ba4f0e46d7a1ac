/-! the model: its token -/
def nt_ki (T : Nat) (b : Nat → Nat) (p : Nat) : Nat := if p < T then (if nt_la b p = true then 1 else if nt_di b p = true then 2 else 3) else 0
def nt_mt (I : ny_I) (T : Nat) (b : Nat → Nat) (p : Nat) : Prop := p ≤ T ∧ I 102 7 = nI p ∧ I 102 8 = nI (nt_en T b p) ∧ I 102 6 = nI (nt_ki T b p) ∧ ∃ v, I 102 9 = nI v ∧ v < 100000 ∧ (nt_ty T b p = 18 → v = nt_val T b p)
def nt_mF (I' I : ny_I) : Prop := (∀ c, c ≠ 102 → I' c = I c) ∧ ∀ j, j ≠ 6 → j ≠ 7 → j ≠ 8 → j ≠ 9 → I' 102 j = I 102 j
theorem nt_mF_r (I : ny_I) : nt_mF I I := ⟨fun _ _ => rfl, fun _ _ _ _ _ => rfl⟩
theorem nt_mF_t {I1 I2 I3 : ny_I} (h : nt_mF I1 I2) (h2 : nt_mF I2 I3) : nt_mF I1 I3 := ⟨fun c x => (h.1 c x).trans (h2.1 c x), fun j x y z w => (h.2 j x y z w).trans (h2.2 j x y z w)⟩
theorem nt_mF_u (I : ny_I) {j : Nat} (x : Int32) (h : j = 6 ∨ j = 7 ∨ j = 8 ∨ j = 9) : nt_mF (ny_up I 102 j x) I := ⟨fun c hc => ny_upne _ hc _ _, fun i a b c e => by rw [ny_uprd, if_neg (by omega)]⟩
theorem nt_M_F {I' I : ny_I} {T : Nat} {b : Nat → Nat} (h : nt_mF I' I) (hM : nt_M I T b) : nt_M I' T b := ⟨by rw [h.2 5 (by decide) (by decide) (by decide) (by decide)]; exact hM.1, fun j hj => by rw [h.1 106 (by decide)]; exact hM.2 j hj⟩
theorem nt_p4 : ∀ n, n < 4 → 10 ^ n ≤ 1000 := by decide +kernel
theorem nt_lab : ∀ c, c < 256 → (nI c < 97 ↔ c < 97) ∧ ((122 : Int32) < nI c ↔ 122 < c) ∧ (nI c < 48 ↔ c < 48) ∧ ((57 : Int32) < nI c ↔ 57 < c) ∧ (nI c = 32 ↔ c = 32) ∧ (0 : Int32) ≤ nI c := by decide +kernel
section NZML
variable {d Ln : Nat} {I : ny_I} {Q : Int32 → ny_I → Prop} {Q0 : ny_I → Prop} {T : Nat} {b : Nat → Nat} {p : Nat}
def nt_bt (T : Nat) (b : Nat → Nat) (i : Nat) : Int32 := if i < T then nI (b i) else -1
theorem nt_bt_l {T : Nat} {b : Nat → Nat} {i : Nat} (h : i < T) : nt_bt T b i = nI (b i) := if_pos h
theorem nt_bt_e {T : Nat} {b : Nat → Nat} {i : Nat} (h : ¬ i < T) : nt_bt T b i = -1 := if_neg h
theorem q_Md_byteAt {i : Nat} (hM : nt_M I T b) (hV : nt_V T b) (hi : i < 2 ^ 31) (h : Q (nt_bt T b i) I) : ny_C1 d m_Md_byteAt [.ref 102, .int (nI i)] Ln I Q := by
  have v := hV.1
  refine s_Md_byteAt_0 ?_
  rw [hM.1, ny_le (by omega) hi]
  refine ⟨fun c => ?_, fun c => ⟨ny_inN (by omega) (by decide), ?_⟩⟩
  · rw [nt_bt_e (by omega)] at h; exact h
  · rw [nI_clamp hi, hM.2 i (by omega)]
    rw [nt_bt_l (by omega)] at h; exact h
theorem q_Md_isAlpha {i : Nat} (hV : nt_V T b) (h : Q (if i < T ∧ nt_la b i = true then nI 1 else nI 0) I) : ny_C1 d m_Md_isAlpha [.int (nt_bt T b i)] Ln I Q := by
  refine s_Md_isAlpha_0 ?_
  by_cases hi : i < T
  · obtain ⟨l1, l2, _⟩ := nt_lab _ (hV.2 i hi)
    unfold nt_la at h
    simp only [decide_eq_true_eq] at h
    rw [nt_bt_l hi, l1, l2]
    refine ⟨fun c => ?_, fun c => ⟨fun c2 => ?_, fun c2 => ?_⟩⟩
    · rw [if_neg (by omega)] at h; exact h
    · rw [if_neg (by omega)] at h; exact h
    · rw [if_pos (by omega)] at h; exact h
  · rw [nt_bt_e hi]
    rw [if_neg (fun q => hi q.1)] at h
    exact ⟨fun _ => h, fun q => absurd (by decide) q⟩
theorem q_Md_isDigit {i : Nat} (hV : nt_V T b) (h : Q (if i < T ∧ nt_di b i = true then nI 1 else nI 0) I) : ny_C1 d m_Md_isDigit [.int (nt_bt T b i)] Ln I Q := by
  refine s_Md_isDigit_0 ?_
  by_cases hi : i < T
  · obtain ⟨_, _, l1, l2, _⟩ := nt_lab _ (hV.2 i hi)
    unfold nt_di at h
    simp only [decide_eq_true_eq] at h
    rw [nt_bt_l hi, l1, l2]
    refine ⟨fun c => ?_, fun c => ⟨fun c2 => ?_, fun c2 => ?_⟩⟩
    · rw [if_neg (by omega)] at h; exact h
    · rw [if_neg (by omega)] at h; exact h
    · rw [if_pos (by omega)] at h; exact h
  · rw [nt_bt_e hi]
    rw [if_neg (fun q => hi q.1)] at h
    exact ⟨fun _ => h, fun q => absurd (by decide) q⟩
def nt_ms (I1 : ny_I) (T : Nat) (b : Nat → Nat) (p q vv : Nat) : Prop := I1 102 7 = nI p ∧ I1 102 6 = nI (nt_ki T b p) ∧ I1 102 8 = nI q ∧ I1 102 9 = nI vv ∧ vv < 100000
theorem nt_ki_p (T : Nat) (b : Nat → Nat) (p : Nat) : nt_ki T b p ≤ 3 ∧ (nt_ki T b p = 0 ↔ ¬ p < T) ∧ (nt_ki T b p = 1 ↔ p < T ∧ nt_la b p = true) ∧ (nt_ki T b p = 2 ↔ p < T ∧ nt_di b p = true) ∧ (nt_ki T b p = 3 ↔ p < T ∧ nt_la b p = false ∧ nt_di b p = false) := by
  unfold nt_ki
  by_cases h : p < T
  · rw [if_pos h]
    by_cases hl : nt_la b p = true
    · have := (nt_ld hl).1
      rw [if_pos hl, hl, this]; simp [h]
    · by_cases hd : nt_di b p = true
      · have := (nt_dl hd).1
        rw [if_neg hl, if_pos hd, hd, this]; simp [h]
      · rw [if_neg hl, if_neg hd, Bool.eq_false_iff.mpr hl, Bool.eq_false_iff.mpr hd]; simp [h]
  · rw [if_neg h]; simp [h]
theorem nt_fin (hp : p ≤ T) (h : ∀ I', nt_mF I' I → nt_mt I' T b p → Q0 I') {I1 : ny_I} {vv q : Nat} {e : Int32} (hF : nt_mF I1 I) (hs : nt_ms I1 T b p q vv) (ht : nt_ty T b p = 18 → vv = nt_val T b p) (he : e = nI (nt_en T b p)) : Q0 (ny_up I1 102 8 e) := by
  obtain ⟨h7, h6, h8, h9, hv⟩ := hs
  refine h _ (nt_mF_t (nt_mF_u _ _ (by omega)) hF) ⟨hp, ?_, ?_, ?_, vv, ?_, hv, ht⟩
  · rw [ny_uprd, if_neg (by omega)]; exact h7
  · rw [ny_uprd, if_pos ⟨rfl, rfl⟩]; exact he
  · rw [ny_uprd, if_neg (by omega)]; exact h6
  · rw [ny_uprd, if_neg (by omega)]; exact h9
theorem nt_126n (hV : nt_V T b) (hp : p ≤ T) (h : ∀ I', nt_mF I' I → nt_mt I' T b p → Q0 I') {I1 : ny_I} {vv q : Nat} (hF : nt_mF I1 I) (hs : nt_ms I1 T b p q vv) (hk : ¬ nt_ki T b p = 2) (hn : nt_en T b p = if nt_ki T b p = 3 then q + 1 else q) : ny_g (d + 1) m_Md_nextToken 126 [(0, .ref 102)] [] Ln I1 (ny_r0 Ln Q0) := by
  have v := hV.1
  obtain ⟨k0, _, _, k2, _⟩ := nt_ki_p T b p
  refine s_Md_nextToken_126 ?_
  rw [hs.2.1, hs.2.2.1, ny_lit, ny_eq (by omega) (by decide), ny_le (by omega) (by decide)]
  have ht : nt_ty T b p = 18 → vv = nt_val T b p := fun e => absurd (k2.mpr ⟨(nt_ty_n e).1, (nt_ty_n e).2.2.1⟩) hk
  refine ⟨fun _ => ⟨fun c => nt_fin hp h hF hs ht ?_, fun c => nt_fin hp h hF hs ht ?_⟩, fun c => absurd c hk⟩
  · rw [if_neg (by omega)] at hn
    rw [hn]; exact nI_add q 0
  · rw [if_pos (by omega)] at hn
    rw [hn]; exact nI_add q 1
theorem nt_126d (hM : nt_M I T b) (hV : nt_V T b) (hp : p ≤ T) (h : ∀ I', nt_mF I' I → nt_mt I' T b p → Q0 I') (hk : nt_ki T b p = 2) : ∀ q vv (I1 : ny_I), nt_mF I1 I → nt_ms I1 T b p q vv → p ≤ q → q ≤ T → nt_rn (nt_di b) T q = nt_en T b p → (nt_en T b p - p ≤ 4 → nt_num b (nt_en T b p - q) q vv = nt_val T b p ∧ vv < 10 ^ (q - p)) → ny_g (d + 1) m_Md_nextToken 126 [(0, .ref 102)] [] Ln I1 (ny_r0 Ln Q0) := by
  have v := hV.1
  intro q
  refine nt_rn_ind (P := nt_di b) (T := T) (C := fun q => ∀ vv (I1 : ny_I), nt_mF I1 I → nt_ms I1 T b p q vv → p ≤ q → q ≤ T → nt_rn (nt_di b) T q = nt_en T b p → (nt_en T b p - p ≤ 4 → nt_num b (nt_en T b p - q) q vv = nt_val T b p ∧ vv < 10 ^ (q - p)) → ny_g (d + 1) m_Md_nextToken 126 [(0, .ref 102)] [] Ln I1 (ny_r0 Ln Q0)) ?_ ?_ q
  · intro q hq vv I1 hF hs hpq hqT hr hn
    rw [nt_rn_z hq] at hr
    refine s_Md_nextToken_126 ?_
    rw [hs.2.1, hs.2.2.1, hk]
    refine ⟨fun c => absurd rfl c, fun _ => q_Md_byteAt (nt_M_F hF hM) hV (by omega) (q_Md_isDigit hV ?_)⟩
    rw [if_neg hq, hs.2.1, hk, hs.2.2.1]
    refine ⟨fun _ => ⟨fun _ => nt_fin hp h hF hs (fun e => ?_) ?_, fun c => absurd (by decide) c⟩, fun c => absurd rfl c⟩
    · have := hn (nt_ty_n e).2.2.2.1
      rw [← this.1, ← hr, Nat.sub_self]; rfl
    · rw [← hr]; exact nI_add q 0
  · intro q hq hd ih vv I1 hF hs hpq hqT hr hn
    rw [nt_rn_s hq hd] at hr
    have hlt : q + 1 ≤ nt_en T b p := by rw [← hr]; exact (nt_rn_p (q + 1)).1
    have hb : 48 ≤ b q ∧ b q ≤ 57 := by unfold nt_di at hd; rw [decide_eq_true_eq] at hd; exact hd
    have M1 := nt_M_F hF hM
    obtain ⟨h7, h6, h8, h9, hv⟩ := hs
    refine s_Md_nextToken_126 ?_
    rw [h6, h8, hk]
    refine ⟨fun c => absurd rfl c, fun _ => q_Md_byteAt M1 hV (by omega) (q_Md_isDigit hV ?_)⟩
    rw [if_pos ⟨hq, hd⟩, h9, h8]
    refine ⟨fun c => absurd c (by decide), fun _ => ?_⟩
    have e9 : nI vv ≤ 9999 ↔ vv ≤ 9999 := ny_le (b := 9999) (by omega) (by decide)
    rw [e9]
    have step : ∀ (w : Nat) (x : Int32), x = nI w → w < 100000 → (nt_en T b p - p ≤ 4 → nt_num b (nt_en T b p - (q + 1)) (q + 1) w = nt_val T b p ∧ w < 10 ^ (q + 1 - p)) → ny_g (d + 1) m_Md_nextToken 126 [(0, .ref 102)] [] Ln (ny_up (ny_up I1 102 9 x) 102 8 (ny_up I1 102 9 x 102 8 + 1)) (ny_r0 Ln Q0) := by
      intro w x hx hw hn2
      have e8 : ny_up I1 102 9 x 102 8 + 1 = nI (q + 1) := by rw [ny_uprd, if_neg (by omega), h8]; exact nI_add q 1
      rw [e8, hx]
      refine ih w _ (nt_mF_t (nt_mF_u _ _ (by omega)) (nt_mF_t (nt_mF_u _ _ (by omega)) hF)) ⟨?_, ?_, ?_, ?_, hw⟩ (by omega) (by omega) hr hn2
      · rw [ny_uprd, if_neg (by omega), ny_uprd, if_neg (by omega)]; exact h7
      · rw [ny_uprd, if_neg (by omega), ny_uprd, if_neg (by omega)]; exact h6
      · rw [ny_uprd, if_pos ⟨rfl, rfl⟩]
      · rw [ny_uprd, if_neg (by omega), ny_uprd, if_pos ⟨rfl, rfl⟩]
    refine ⟨fun c => q_Md_byteAt M1 hV (by omega) ?_, fun c => step vv _ rfl hv fun e4 => ?_⟩
    · rw [nt_bt_l hq]
      refine step (10 * vv + (b q - 48)) _ ?_ (by omega) fun e4 => ?_
      · have ea : (10 : Int32) * nI vv = nI (10 * vv) := ny_mul 10 vv
        have es : nI (10 * vv + b q) - 48 = nI (10 * vv + b q - 48) := pk_sub (b := 48) (by omega)
        rw [ea, nI_add, es]
        congr 1; omega
      · obtain ⟨n1, n2⟩ := hn e4
        rw [show nt_en T b p - q = (nt_en T b p - (q + 1)) + 1 by omega, nt_num] at n1
        refine ⟨n1, ?_⟩
        rw [show q + 1 - p = (q - p) + 1 by omega, Nat.pow_succ]
        omega
    · obtain ⟨n1, n2⟩ := hn e4
      have := nt_p4 (q - p) (by omega)
      omega
theorem nt_91 (hM : nt_M I T b) (hV : nt_V T b) (hp : p ≤ T) (h : ∀ I', nt_mF I' I → nt_mt I' T b p → Q0 I') {I1 : ny_I} (hF : nt_mF I1 I) (hs : nt_ms I1 T b p p 0) : ny_g (d + 1) m_Md_nextToken 91 [(0, .ref 102)] [] Ln I1 (ny_r0 Ln Q0) := by
  have v := hV.1
  obtain ⟨k0, k00, k1, k2, k3⟩ := nt_ki_p T b p
  by_cases c1 : nt_ki T b p = 1
  · have hl := k1.mp c1
    have key : ∀ q, ∀ (I1 : ny_I), nt_mF I1 I → nt_ms I1 T b p q 0 → q ≤ T → nt_rn (nt_la b) T q = nt_en T b p → ny_g (d + 1) m_Md_nextToken 91 [(0, .ref 102)] [] Ln I1 (ny_r0 Ln Q0) := by
      intro q
      refine nt_rn_ind (P := nt_la b) (T := T) (C := fun q => ∀ (I1 : ny_I), nt_mF I1 I → nt_ms I1 T b p q 0 → q ≤ T → nt_rn (nt_la b) T q = nt_en T b p → ny_g (d + 1) m_Md_nextToken 91 [(0, .ref 102)] [] Ln I1 (ny_r0 Ln Q0)) ?_ ?_ q
      · intro q hq I1 hF hs hqT hr
        rw [nt_rn_z hq] at hr
        refine s_Md_nextToken_91 ?_
        rw [hs.2.1, hs.2.2.1, c1]
        refine ⟨fun c => absurd rfl c, fun _ => q_Md_byteAt (nt_M_F hF hM) hV (by omega) (q_Md_isAlpha hV ?_)⟩
        rw [if_neg hq]
        exact ⟨fun _ => nt_126n hV hp h hF hs (by omega) (by rw [if_neg (by omega)]; exact hr.symm), fun c => absurd rfl c⟩
      · intro q hq hd ih I1 hF hs hqT hr
        rw [nt_rn_s hq hd] at hr
        have M1 := nt_M_F hF hM
        obtain ⟨h7, h6, h8, h9, hv⟩ := hs
        refine s_Md_nextToken_91 ?_
        rw [h6, h8, c1]
        refine ⟨fun c => absurd rfl c, fun _ => q_Md_byteAt M1 hV (by omega) (q_Md_isAlpha hV ?_)⟩
        rw [if_pos ⟨hq, hd⟩, h8]
        refine ⟨fun c => absurd c (by decide), fun _ => ?_⟩
        rw [nI_1]
        refine ih _ (nt_mF_t (nt_mF_u _ _ (by omega)) hF) ⟨?_, ?_, ?_, ?_, hv⟩ (by omega) hr
        · rw [ny_uprd, if_neg (by omega)]; exact h7
        · rw [ny_uprd, if_neg (by omega)]; exact h6
        · rw [ny_uprd, if_pos ⟨rfl, rfl⟩]
        · rw [ny_uprd, if_neg (by omega)]; exact h9
    exact key p I1 hF hs hp (nt_en_l hl.1 hl.2).symm
  · refine s_Md_nextToken_91 ?_
    have e1 : nI (nt_ki T b p) = 1 ↔ nt_ki T b p = 1 := ny_eq (b := 1) (by omega) (by decide)
    rw [hs.2.1, e1]
    refine ⟨fun _ => ?_, fun c => absurd c c1⟩
    by_cases c2 : nt_ki T b p = 2
    · have hd := k2.mp c2
      exact nt_126d hM hV hp h c2 p 0 I1 hF hs (Nat.le_refl _) hp (nt_en_d hd.1 hd.2).symm fun e4 => ⟨rfl, by rw [Nat.sub_self]; decide⟩
    · refine nt_126n hV hp h hF hs c2 ?_
      by_cases c3 : nt_ki T b p = 3
      · rw [if_pos c3]
        have := k3.mp c3
        exact nt_en_o this.1 this.2.1 this.2.2
      · rw [if_neg c3]
        exact nt_en_T (by have := k00.mp (by omega); omega)
theorem q_Md_nextToken {q0 : Nat} (hM : nt_M I T b) (hV : nt_V T b) (hq : q0 ≤ T) (h8 : I 102 8 = nI q0) (h : ∀ I', nt_mF I' I → nt_mt I' T b (nt_sk T b q0) → Q0 I') : ny_C0 (d + 1) m_Md_nextToken [.ref 102] Ln I Q0 := by
  have v := hV.1
  have hp : nt_sk T b q0 ≤ T := (nt_sk_p q0).2.1 hq
  refine s_Md_nextToken_0 ?_
  have key : ∀ q, ∀ (I1 : ny_I), nt_mF I1 I → I1 102 7 = nI q → q ≤ T → nt_rn (nt_bk b) T q = nt_sk T b q0 → ny_g (d + 1) m_Md_nextToken 8 [(0, .ref 102)] [] Ln I1 (ny_r0 Ln Q0) := by
    intro q
    refine nt_rn_ind (P := nt_bk b) (T := T) (C := fun q => ∀ (I1 : ny_I), nt_mF I1 I → I1 102 7 = nI q → q ≤ T → nt_rn (nt_bk b) T q = nt_sk T b q0 → ny_g (d + 1) m_Md_nextToken 8 [(0, .ref 102)] [] Ln I1 (ny_r0 Ln Q0)) ?_ ?_ q
    · intro q hq I1 hF h7 hqT hr
      rw [nt_rn_z hq] at hr
      have M1 := nt_M_F hF hM
      have M2 : nt_M (ny_up I1 102 8 (nI q)) T b := nt_M_F (nt_mF_u I1 _ (by omega)) M1
      have F2 : nt_mF (ny_up I1 102 8 (nI q)) I := nt_mF_t (nt_mF_u I1 _ (by omega)) hF
      have e7 : ny_up I1 102 8 (nI q) 102 7 = nI q := by rw [ny_uprd, if_neg (by omega)]; exact h7
      refine s_Md_nextToken_8 ?_
      rw [h7]
      refine q_Md_byteAt M1 hV (by omega) ⟨fun c => ?_, fun c => ?_⟩
      · rw [h7, e7]
        rw [← hr] at hp h
        refine q_Md_byteAt M2 hV (by omega) ?_
        have go : ∀ k : Nat, nt_ki T b q = k → ny_g (d + 1) m_Md_nextToken 91 [(0, .ref 102)] [] Ln (ny_up (ny_up (ny_up I1 102 8 (nI q)) 102 6 (nI k)) 102 9 0) (ny_r0 Ln Q0) := by
          intro k hk
          refine nt_91 hM hV hp h (nt_mF_t (nt_mF_u _ _ (by omega)) (nt_mF_t (nt_mF_u _ _ (by omega)) F2)) ⟨?_, ?_, ?_, ?_, by decide⟩
          · rw [ny_uprd, if_neg (by omega), ny_uprd, if_neg (by omega)]; exact e7
          · rw [ny_uprd, if_neg (by omega), ny_uprd, if_pos ⟨rfl, rfl⟩, hk]
          · rw [ny_uprd, if_neg (by omega), ny_uprd, if_neg (by omega), ny_uprd, if_pos ⟨rfl, rfl⟩]
          · rw [ny_uprd, if_pos ⟨rfl, rfl⟩]; rfl
        obtain ⟨k0, k00, k1, k2, k3⟩ := nt_ki_p T b q
        by_cases hT : q < T
        · have l := nt_lab _ (hV.2 q hT)
          refine ⟨fun _ => q_Md_isAlpha hV ?_, fun c => absurd (by rw [nt_bt_l hT]; exact l.2.2.2.2.2) c⟩
          by_cases hl : nt_la b q = true
          · rw [if_pos ⟨hT, hl⟩]
            exact ⟨fun c => absurd c (by decide), fun _ => go 1 (k1.mpr ⟨hT, hl⟩)⟩
          · rw [if_neg fun c => hl c.2]
            refine ⟨fun _ => q_Md_isDigit hV ?_, fun c => absurd rfl c⟩
            by_cases hd : nt_di b q = true
            · rw [if_pos ⟨hT, hd⟩]
              exact ⟨fun c => absurd c (by decide), fun _ => go 2 (k2.mpr ⟨hT, hd⟩)⟩
            · rw [if_neg fun c => hd c.2]
              exact ⟨fun _ => go 3 (k3.mpr ⟨hT, Bool.eq_false_iff.mpr hl, Bool.eq_false_iff.mpr hd⟩), fun c => absurd rfl c⟩
        · rw [nt_bt_e hT]
          exact ⟨fun c => absurd c (by decide), fun _ => go 0 (k00.mpr hT)⟩
      · exfalso
        by_cases hT : q < T
        · rw [nt_bt_l hT, (nt_lab _ (hV.2 q hT)).2.2.2.2.1] at c
          exact hq ⟨hT, by unfold nt_bk; exact decide_eq_true c⟩
        · rw [nt_bt_e hT] at c; exact absurd c (by decide)
    · intro q hq hd ih I1 hF h7 hqT hr
      rw [nt_rn_s hq hd] at hr
      have M1 := nt_M_F hF hM
      refine s_Md_nextToken_8 ?_
      rw [h7]
      have hb : b q = 32 := by unfold nt_bk at hd; rw [decide_eq_true_eq] at hd; exact hd
      refine q_Md_byteAt M1 hV (by omega) ⟨fun c => absurd (by rw [nt_bt_l hq, hb]; rfl) c, fun _ => ?_⟩
      rw [h7, nI_1]
      refine ih _ (nt_mF_t (nt_mF_u _ _ (by omega)) hF) ?_ (by omega) hr
      rw [ny_uprd, if_pos ⟨rfl, rfl⟩]
  refine key q0 _ (nt_mF_u _ _ (by omega)) ?_ hq rfl
  rw [ny_uprd, if_pos ⟨rfl, rfl⟩]; exact h8
end NZML
