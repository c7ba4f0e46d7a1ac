/-! the rules of a tape -/
abbrev nt_R : Type := Nat × Option ny_a
def nt_bn (r : nt_R) (f : Nat → ny_a → nt_R) : nt_R := match r with
  | (q, none) => (q, none)
  | (q, some a) => f q a
theorem nt_bn_n {r : nt_R} {q : Nat} (h : r = (q, none)) (f : Nat → ny_a → nt_R) : nt_bn r f = (q, none) := by rw [h]; rfl
theorem nt_bn_s {r : nt_R} {q : Nat} {a : ny_a} (h : r = (q, some a)) (f : Nat → ny_a → nt_R) : nt_bn r f = f q a := by rw [h]; rfl
theorem nt_bn_i {r : nt_R} {f : Nat → ny_a → nt_R} {q : Nat} {a : ny_a} (h : nt_bn r f = (q, some a)) : ∃ q1 a1, r = (q1, some a1) ∧ f q1 a1 = (q, some a) := by
  obtain ⟨q1, o⟩ := r
  cases o with
  | none => exact absurd h (by intro x; have : (q1, (none : Option ny_a)) = (q, some a) := x; injection this with _ y; injection y)
  | some a1 => exact ⟨q1, a1, rfl, h⟩
def nt_vl (T : Nat) (b : Nat → Nat) (p : Nat) : Option Nat := if nt_ty T b p = 18 then some (nt_val T b p) else if 9 ≤ nt_ty T b p ∧ nt_ty T b p < 14 then some (10000 + (nt_ty T b p - 9)) else none
def nt_sa (a : ny_a) (s v w : Nat) : ny_a := fun j => if j = 7 then a 7 + 1 else if j = 122 + 3 * a 7 then s else if j = 123 + 3 * a 7 then v else if j = 124 + 3 * a 7 then w else a j
def nt_cm (T : Nat) (b : Nat → Nat) (p : Nat) (a : ny_a) : nt_R := match nt_vl T b p with
  | none => (p, none)
  | some v => if 60 ≤ nt_ty T b (nt_nx T b p) then (match nt_vl T b (nt_nx T b (nt_nx T b p)) with
      | none => (nt_nx T b (nt_nx T b p), none)
      | some w => (nt_nx T b (nt_nx T b (nt_nx T b p)), some (nt_sa a (nt_ty T b (nt_nx T b p) - 60) v w))) else (nt_nx T b p, none)
def nt_nt (T : Nat) (b : Nat → Nat) : Nat → Nat → Bool → Nat × Bool
  | 0, p, t => (p, t)
  | f + 1, p, t => if nt_ty T b p = 17 then nt_nt T b f (nt_nx T b p) (!t) else (p, t)
def nt_on (T : Nat) (b : Nat → Nat) (o : Bool) (C : Nat → ny_a → nt_R) (p : Nat) (a : ny_a) : nt_R :=
  nt_bn (if o = true ∧ nt_ty T b (nt_nt T b 200 p false).1 = 40 then nt_bn (C (nt_nx T b (nt_nt T b 200 p false).1) a) (fun q a' => if nt_ty T b q = 41 then (nt_nx T b q, some a') else (q, none)) else nt_cm T b (nt_nt T b 200 p false).1 a)
    fun q a' => (q, some (if (nt_nt T b 200 p false).2 = true then nt_sa a' 3 0 0 else a'))
def nt_lo (T : Nat) (b : Nat → Nat) (E : Nat → ny_a → nt_R) (w s : Nat) : Nat → Nat → ny_a → nt_R
  | 0, p, a => (p, some a)
  | f + 1, p, a => if nt_ty T b p = w then nt_bn (E (nt_nx T b p) a) (fun q a' => nt_lo T b E w s f q (nt_sa a' s 0 0)) else (p, some a)
def nt_al (T : Nat) (b : Nat → Nat) (o : Bool) (C : Nat → ny_a → nt_R) (p : Nat) (a : ny_a) : nt_R := nt_bn (nt_on T b o C p a) (nt_lo T b (nt_on T b o C) 15 4 200)
def nt_cn (T : Nat) (b : Nat → Nat) (o : Bool) (C : Nat → ny_a → nt_R) (p : Nat) (a : ny_a) : nt_R := nt_bn (nt_al T b o C p a) (nt_lo T b (nt_al T b o C) 16 5 200)
def nt_cd (T : Nat) (b : Nat → Nat) : Nat → Nat → ny_a → nt_R
  | 0 => nt_cn T b false (fun p _ => (p, none))
  | L + 1 => nt_cn T b true (nt_cd T b L)
def nt_ra (a : ny_a) (k w s : Nat) : ny_a := fun j => if j = 5 then a 5 + 1 else if j = 66 + 4 * a 5 then k else if j = 67 + 4 * a 5 then w else if j = 68 + 4 * a 5 then s else if j = 69 + 4 * a 5 then a 7 else a j
def nt_ru (T : Nat) (b : Nat → Nat) (p : Nat) (a : ny_a) : nt_R :=
  if nt_ty T b p < 6 ∧ a 5 < 8 then nt_bn (if nt_ty T b (nt_nx T b p) = 14 then nt_cd T b 3 (nt_nx T b (nt_nx T b p)) a else (nt_nx T b p, some a)) fun q a1 =>
    if 6 ≤ nt_ty T b q ∧ nt_ty T b q ≤ 8 then (if nt_ty T b (nt_nx T b q) = 59 then (nt_nx T b (nt_nx T b q), some (nt_ra a1 (nt_ty T b p) (nt_ty T b q - 6) (a 7))) else (nt_nx T b q, none)) else (q, none)
  else (p, none)
def nt_rl (T : Nat) (b : Nat → Nat) : Nat → Nat → ny_a → nt_R
  | 0, p, a => if nt_ty T b p = 19 then (p, some a) else (p, none)
  | f + 1, p, a => if nt_ty T b p = 19 then (p, some a) else nt_bn (nt_ru T b p a) (nt_rl T b f)
def nt_az (a : ny_a) : ny_a := fun j => if j = 5 ∨ j = 7 then 0 else a j
def o_rules (T : Nat) (b : Nat → Nat) (a : ny_a) : Int32 × ny_a := match nt_rl T b 8 (nt_sk T b 0) (nt_az a) with
  | (q, none) => (nI 4294967196 - nI q, a)
  | (_, some a') => (nI (a' 5), a')
/-! how many truths -/
theorem nt_dp_c {a a' : ny_a} {s : Nat} : ∀ j, (∀ i, i < j → a' (122 + 3 * (s + i)) = a (122 + 3 * (s + i))) → ny_dp a' s j = ny_dp a s j := by
  intro j
  induction j with
  | zero => intro _; rfl
  | succ j ih =>
    intro h
    rw [ny_dp, ny_dp, ih fun i hi => h i (by omega), h j (by omega)]
def nt_ex (a a' : ny_a) (D M : Nat) : Prop := a 7 ≤ a' 7 ∧ (∀ j, j ≠ 7 → (j < 122 + 3 * a 7 ∨ 122 + 3 * a' 7 ≤ j) → a' j = a j) ∧ (∀ i, a 7 ≤ i → i < a' 7 → a' (122 + 3 * i) ≤ 5 ∧ a' (123 + 3 * i) ≤ 10004 ∧ a' (124 + 3 * i) ≤ 10004) ∧
  ∀ s, s ≤ a 7 → ny_dp a' s (a' 7 - s) = ny_dp a s (a 7 - s) + D ∧ ∀ j, a 7 - s ≤ j → j ≤ a' 7 - s → ny_dp a' s j ≤ ny_dp a s (a 7 - s) + M
theorem nt_ex_r (a : ny_a) : nt_ex a a 0 0 := ⟨Nat.le_refl _, fun _ _ _ => rfl, fun i x y => absurd y (by omega), fun s hs => ⟨rfl, fun j x y => by rw [show j = a 7 - s by omega]; exact Nat.le_refl _⟩⟩
theorem nt_ex_t {a a1 a2 : ny_a} {D1 D2 M1 M2 M : Nat} (h1 : nt_ex a a1 D1 M1) (h2 : nt_ex a1 a2 D2 M2) (hM : M1 ≤ M) (hM2 : D1 + M2 ≤ M) : nt_ex a a2 (D1 + D2) M := by
  obtain ⟨p1, p2, p3, p4⟩ := h1
  obtain ⟨q1, q2, q3, q4⟩ := h2
  refine ⟨by omega, fun j x y => ?_, fun i x y => ?_, fun s hs => ⟨?_, fun j x y => ?_⟩⟩
  · rw [q2 j x (by omega), p2 j x (by omega)]
  · rcases Nat.lt_or_ge i (a1 7) with z | z
    · rw [q2 _ (by omega) (by omega), q2 _ (by omega) (by omega), q2 _ (by omega) (by omega)]
      exact p3 i x z
    · exact q3 i z y
  · rw [(q4 s (by omega)).1, (p4 s hs).1]; omega
  · rcases Nat.lt_or_ge j (a1 7 - s) with z | z
    · rw [nt_dp_c (a := a1) j fun i hi => q2 _ (by omega) (by omega)]
      have := (p4 s hs).2 j x (by omega)
      omega
    · have := (q4 s (by omega)).2 j z y
      have := (p4 s hs).1
      omega
theorem nt_sa_o {a : ny_a} {s v w j : Nat} (h7 : j ≠ 7) (h : j < 122 + 3 * a 7 ∨ 125 + 3 * a 7 ≤ j) : nt_sa a s v w j = a j := by
  unfold nt_sa
  rw [if_neg h7, if_neg (by omega), if_neg (by omega), if_neg (by omega)]
theorem nt_sa_7 {a : ny_a} {s v w : Nat} : nt_sa a s v w 7 = a 7 + 1 := rfl
theorem nt_sa_n {a : ny_a} {s v w : Nat} : nt_sa a s v w (122 + 3 * a 7) = s ∧ nt_sa a s v w (123 + 3 * a 7) = v ∧ nt_sa a s v w (124 + 3 * a 7) = w := by
  unfold nt_sa
  refine ⟨?_, ?_, ?_⟩
  · rw [if_neg (by omega), if_pos rfl]
  · rw [if_neg (by omega), if_neg (by omega), if_pos rfl]
  · rw [if_neg (by omega), if_neg (by omega), if_neg (by omega), if_pos rfl]
theorem nt_ex_s {a a' : ny_a} {D M D2 M2 s v w : Nat} (h : nt_ex a a' D M) (hs : s ≤ 5) (hv : v ≤ 10004) (hw : w ≤ 10004) (hD : D2 = if s < 3 then D + 1 else if s = 3 then D else D - 1) (h1 : 3 < s → 1 ≤ D) (hM : M ≤ M2) (hM2 : D2 ≤ M2) : nt_ex a (nt_sa a' s v w) D2 M2 := by
  obtain ⟨p1, p2, p3, p4⟩ := h
  obtain ⟨n1, n2, n3⟩ := nt_sa_n (a := a') (s := s) (v := v) (w := w)
  have dc : ∀ t j, t + j ≤ a' 7 → ny_dp (nt_sa a' s v w) t j = ny_dp a' t j := fun t j h => nt_dp_c j fun i hi => nt_sa_o (by omega) (by omega)
  have dl : ∀ t, t ≤ a 7 → ny_dp (nt_sa a' s v w) t (a' 7 + 1 - t) = ny_dp a t (a 7 - t) + D2 := by
    intro t ht
    rw [show a' 7 + 1 - t = (a' 7 - t) + 1 by omega, ny_dp, show t + (a' 7 - t) = a' 7 by omega, n1, dc t _ (by omega), (p4 t ht).1, hD]
    split
    · omega
    · split
      · rfl
      · have := h1 (by omega); omega
  refine ⟨by rw [nt_sa_7]; omega, fun j x y => ?_, fun i x y => ?_, fun t ht => ?_⟩
  · rw [nt_sa_7] at y
    rw [nt_sa_o x (by omega), p2 j x (by omega)]
  · rw [nt_sa_7] at y
    by_cases e : i = a' 7
    · rw [e, n1, n2, n3]; exact ⟨hs, hv, hw⟩
    · rw [nt_sa_o (by omega) (by omega), nt_sa_o (by omega) (by omega), nt_sa_o (by omega) (by omega)]
      exact p3 i x (by omega)
  · rw [nt_sa_7]
    refine ⟨dl t ht, fun j x y => ?_⟩
    by_cases e : j = a' 7 + 1 - t
    · rw [e, dl t ht]; omega
    · rw [dc t j (by omega)]
      have := (p4 t ht).2 j x (by omega)
      omega
def nt_ok (T p : Nat) (a : ny_a) (r : nt_R) (M : Nat) : Prop := ∀ q a', r = (q, some a') → p ≤ T → p + 1 ≤ q ∧ q ≤ T ∧ nt_ex a a' 1 M ∧ 2 * a' 7 + p ≤ q + 2 * a 7
theorem nt_pw (x : nt_R) {q q2 : Nat} {a a2 : ny_a} (h : (q, some a) = ((q2, some a2) : nt_R)) : q = q2 ∧ a = a2 := by
  injection h with h1 h2
  injection h2 with h3
  exact ⟨h1, h3⟩
theorem nt_ty_T {T : Nat} {b : Nat → Nat} {p : Nat} (h : ¬ nt_ty T b p = 19) : p < T := by
  refine Classical.byContradiction fun q => h ?_
  unfold nt_ty
  rw [if_neg q]
theorem nt_vl_T {T : Nat} {b : Nat → Nat} {p v : Nat} (h : nt_vl T b p = some v) : p < T ∧ v ≤ 10004 := by
  unfold nt_vl at h
  split at h
  · injection h with h
    have := nt_ty_n (by assumption)
    exact ⟨this.1, by omega⟩
  · split at h
    · injection h with h
      exact ⟨nt_ty_T (b := b) (by omega), by omega⟩
    · injection h
theorem nt_cm_ok {T : Nat} {b : Nat → Nat} {p : Nat} {a : ny_a} : nt_ok T p a (nt_cm T b p a) 1 := by
  intro q a' h hp
  unfold nt_cm at h
  split at h
  · injection h with _ h; injection h
  · rename_i v hv
    split at h
    · rename_i h60
      split at h
      · injection h with _ h; injection h
      · rename_i w hw
        obtain ⟨e1, e2⟩ := nt_pw (0, none) h
        have t1 := nt_vl_T hv
        have t2 := nt_vl_T hw
        have t3 := nt_nx_lt (b := b) t1.1
        have t4 := nt_ty_T (T := T) (b := b) (p := nt_nx T b p) (by omega)
        have t5 := nt_nx_lt (b := b) t4
        have t6 := nt_nx_lt (b := b) t2.1
        have t7 := nt_nx_le (b := b) (Nat.le_of_lt t2.1)
        have t8 := nt_ty_lt T b (nt_nx T b p)
        rw [← e1, ← e2]
        exact ⟨by omega, t7, nt_ex_s (nt_ex_r a) (by omega) t1.2 t2.2 (by rw [if_pos (by omega)]) (fun x => absurd x (by omega)) (by omega) (by omega), by rw [nt_sa_7]; omega⟩
    · injection h with _ h; injection h
theorem nt_nt_p {T : Nat} {b : Nat → Nat} : ∀ f p t, p ≤ (nt_nt T b f p t).1 ∧ (p ≤ T → (nt_nt T b f p t).1 ≤ T) ∧ ((nt_nt T b f p t).2 = t ∨ p + 2 ≤ (nt_nt T b f p t).1) := by
  intro f
  induction f with
  | zero => intro p t; exact ⟨Nat.le_refl _, fun x => x, Or.inl rfl⟩
  | succ f ih =>
    intro p t
    by_cases h : nt_ty T b p = 17
    · rw [nt_nt, if_pos h]
      have h2 := nt_ty_w (T := T) (b := b) (p := p) (by omega)
      obtain ⟨i1, i2, i3⟩ := ih (nt_nx T b p) (!t)
      exact ⟨by omega, fun x => i2 (nt_nx_le x), Or.inr (by omega)⟩
    · rw [nt_nt, if_neg h]
      exact ⟨Nat.le_refl _, fun x => x, Or.inl rfl⟩
theorem nt_on_ok {T : Nat} {b : Nat → Nat} {o : Bool} {C : Nat → ny_a → nt_R} {M : Nat} (hC : ∀ p a, nt_ok T p a (C p a) M) (hM : 1 ≤ M) {p : Nat} {a : ny_a} : nt_ok T p a (nt_on T b o C p a) M := by
  intro q a' h hp
  obtain ⟨q1, a1, h1, h2⟩ := nt_bn_i h
  obtain ⟨n1, n2, n3⟩ := nt_nt_p (T := T) (b := b) 200 p false
  have n2 := n2 hp
  have key : (nt_nt T b 200 p false).1 + 1 ≤ q1 ∧ q1 ≤ T ∧ nt_ex a a1 1 M ∧ 2 * a1 7 + (nt_nt T b 200 p false).1 ≤ q1 + 2 * a 7 := by
    split at h1
    · rename_i ho
      have t1 := nt_ty_T (T := T) (b := b) (p := (nt_nt T b 200 p false).1) (by omega)
      obtain ⟨q2, a2, h3, h4⟩ := nt_bn_i h1
      obtain ⟨g1, g2, g3, g4⟩ := hC _ _ _ _ h3 (nt_nx_le n2)
      have t2 := nt_nx_lt (b := b) t1
      split at h4
      · obtain ⟨e1, e2⟩ := nt_pw (0, none) h4
        have t3 := nt_ty_T (T := T) (b := b) (p := q2) (by omega)
        have t4 := nt_nx_lt (b := b) t3
        have t5 := nt_nx_le (b := b) g2
        rw [← e1, ← e2]
        exact ⟨by omega, t5, g3, by omega⟩
      · injection h4 with _ h4; injection h4
    · obtain ⟨g1, g2, g3, g4⟩ := nt_cm_ok _ _ h1 n2
      refine ⟨g1, g2, ?_, g4⟩
      obtain ⟨x1, x2, x3, x4⟩ := g3
      exact ⟨x1, x2, x3, fun s hs => ⟨(x4 s hs).1, fun j y z => by have := (x4 s hs).2 j y z; omega⟩⟩
  obtain ⟨g1, g2, g3, g4⟩ := key
  obtain ⟨e1, e2⟩ := nt_pw (0, none) h2
  rw [← e1, ← e2]
  split
  · rename_i ht
    have n4 : p + 2 ≤ (nt_nt T b 200 p false).1 := by
      rcases n3 with x | x
      · rw [ht] at x; exact absurd x (by decide)
      · exact x
    exact ⟨by omega, g2, nt_ex_s g3 (by omega) (by omega) (by omega) (by decide) (fun x => absurd x (by omega)) (Nat.le_refl _) hM, by rw [nt_sa_7]; omega⟩
  · exact ⟨by omega, g2, g3, by omega⟩
theorem nt_lo_ok {T : Nat} {b : Nat → Nat} {E : Nat → ny_a → nt_R} {w s M M1 : Nat} (hE : ∀ p a, nt_ok T p a (E p a) M1) (hM : M1 + 1 ≤ M) (hw : w < 18) (hs : 3 < s) (hs5 : s ≤ 5) {p0 : Nat} {a0 : ny_a} : ∀ f p a, p0 + 1 ≤ p → p ≤ T → nt_ex a0 a 1 M → 2 * a 7 + p0 ≤ p + 2 * a0 7 → ∀ q a', nt_lo T b E w s f p a = (q, some a') → p0 + 1 ≤ q ∧ q ≤ T ∧ nt_ex a0 a' 1 M ∧ 2 * a' 7 + p0 ≤ q + 2 * a0 7 := by
  intro f
  induction f with
  | zero =>
    intro p a h1 h2 h3 h4 q a' h
    obtain ⟨e1, e2⟩ := nt_pw (0, none) h
    rw [← e1, ← e2]
    exact ⟨h1, h2, h3, h4⟩
  | succ f ih =>
    intro p a h1 h2 h3 h4 q a' h
    rw [nt_lo] at h
    split at h
    · rename_i ht
      obtain ⟨q1, a1, h5, h6⟩ := nt_bn_i h
      have h7 := nt_ty_w (T := T) (b := b) (p := p) (by omega)
      obtain ⟨g1, g2, g3, g4⟩ := hE _ _ _ _ h5 (nt_nx_le h2)
      refine ih q1 _ (by omega) g2 (nt_ex_s (nt_ex_t h3 g3 (Nat.le_refl M) (by omega)) hs5 (by omega) (by omega) ?_ (fun _ => by omega) (Nat.le_refl _) (by omega)) ?_ q a' h6
      · rw [if_neg (by omega), if_neg (by omega)]
      · rw [nt_sa_7]; omega
    · obtain ⟨e1, e2⟩ := nt_pw (0, none) h
      rw [← e1, ← e2]
      exact ⟨h1, h2, h3, h4⟩
theorem nt_ex_m {a a' : ny_a} {D M M2 : Nat} (h : nt_ex a a' D M) (hM : M ≤ M2) : nt_ex a a' D M2 := by
  obtain ⟨x1, x2, x3, x4⟩ := h
  exact ⟨x1, x2, x3, fun s hs => ⟨(x4 s hs).1, fun j y z => by have := (x4 s hs).2 j y z; omega⟩⟩
theorem nt_al_ok {T : Nat} {b : Nat → Nat} {o : Bool} {C : Nat → ny_a → nt_R} {M : Nat} (hC : ∀ p a, nt_ok T p a (C p a) M) (hM : 1 ≤ M) {p : Nat} {a : ny_a} : nt_ok T p a (nt_al T b o C p a) (M + 1) := by
  intro q a' h hp
  obtain ⟨q1, a1, h1, h2⟩ := nt_bn_i h
  obtain ⟨g1, g2, g3, g4⟩ := nt_on_ok hC hM _ _ h1 hp
  exact nt_lo_ok (M1 := M) (fun p a => nt_on_ok hC hM) (Nat.le_refl _) (by decide) (by decide) (by decide) 200 q1 a1 g1 g2 (nt_ex_m g3 (by omega)) g4 q a' h2
theorem nt_cn_ok {T : Nat} {b : Nat → Nat} {o : Bool} {C : Nat → ny_a → nt_R} {M : Nat} (hC : ∀ p a, nt_ok T p a (C p a) M) (hM : 1 ≤ M) {p : Nat} {a : ny_a} : nt_ok T p a (nt_cn T b o C p a) (M + 2) := by
  intro q a' h hp
  obtain ⟨q1, a1, h1, h2⟩ := nt_bn_i h
  obtain ⟨g1, g2, g3, g4⟩ := nt_al_ok hC hM _ _ h1 hp
  exact nt_lo_ok (M1 := M + 1) (fun p a => nt_al_ok hC hM) (Nat.le_refl _) (by decide) (by decide) (by decide) 200 q1 a1 g1 g2 (nt_ex_m g3 (by omega)) g4 q a' h2
theorem nt_cd_ok {T : Nat} {b : Nat → Nat} : ∀ L p a, nt_ok T p a (nt_cd T b L p a) (3 + 2 * L) := by
  intro L
  induction L with
  | zero =>
    intro p a
    refine nt_cn_ok (M := 1) (fun p a q a' h => ?_) (by decide)
    injection h with _ h; injection h
  | succ L ih =>
    intro p a
    exact nt_cn_ok (M := 3 + 2 * L) ih (by omega)
