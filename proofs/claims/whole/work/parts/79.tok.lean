/-! the tape's words -/
def nt_to (P : Nat → Bool) (T : Nat) : Nat → Nat → Nat
  | 0, q => q
  | f + 1, q => if q < T ∧ P q = true then nt_to P T f (q + 1) else q
def nt_rn (P : Nat → Bool) (T q : Nat) : Nat := nt_to P T (T - q) q
theorem nt_rn_s {P : Nat → Bool} {T q : Nat} (h : q < T) (hp : P q = true) : nt_rn P T q = nt_rn P T (q + 1) := by
  unfold nt_rn
  rw [show T - q = (T - (q + 1)) + 1 by omega]
  show (if q < T ∧ P q = true then nt_to P T (T - (q + 1)) (q + 1) else q) = _
  rw [if_pos ⟨h, hp⟩]
theorem nt_rn_z {P : Nat → Bool} {T q : Nat} (h : ¬ (q < T ∧ P q = true)) : nt_rn P T q = q := by
  unfold nt_rn
  cases T - q with
  | zero => rfl
  | succ f =>
    show (if q < T ∧ P q = true then nt_to P T f (q + 1) else q) = _
    rw [if_neg h]
theorem nt_rn_ind {P : Nat → Bool} {T : Nat} {C : Nat → Prop} (h0 : ∀ q, ¬ (q < T ∧ P q = true) → C q) (h1 : ∀ q, q < T → P q = true → C (q + 1) → C q) (q : Nat) : C q := by
  have key : ∀ f q, T - q ≤ f → C q := by
    intro f
    induction f with
    | zero => intro q hq; exact h0 q fun h => by omega
    | succ f ih =>
      intro q hq
      by_cases h : q < T ∧ P q = true
      · exact h1 q h.1 h.2 (ih (q + 1) (by omega))
      · exact h0 q h
  exact key (T - q) q (Nat.le_refl _)
theorem nt_rn_p {P : Nat → Bool} {T : Nat} (q : Nat) : q ≤ nt_rn P T q ∧ (q ≤ T → nt_rn P T q ≤ T) ∧ (∀ j, q ≤ j → j < nt_rn P T q → P j = true ∧ j < T) ∧ (nt_rn P T q < T → P (nt_rn P T q) = false) := by
  refine nt_rn_ind (P := P) (T := T) (C := fun q => q ≤ nt_rn P T q ∧ (q ≤ T → nt_rn P T q ≤ T) ∧ (∀ j, q ≤ j → j < nt_rn P T q → P j = true ∧ j < T) ∧ (nt_rn P T q < T → P (nt_rn P T q) = false)) (fun q h => ?_) (fun q h hp ih => ?_) q
  · rw [nt_rn_z h]
    exact ⟨Nat.le_refl _, fun x => x, fun j a c => absurd c (by omega), fun x => Bool.eq_false_iff.mpr fun y => h ⟨x, y⟩⟩
  · rw [nt_rn_s h hp]
    obtain ⟨a, c, e, g⟩ := ih
    refine ⟨by omega, fun _ => c (by omega), fun j x y => ?_, g⟩
    by_cases ej : j = q
    · subst ej; exact ⟨hp, h⟩
    · exact e j (by omega) y
def nt_la (b : Nat → Nat) (j : Nat) : Bool := decide (97 ≤ b j ∧ b j ≤ 122)
def nt_di (b : Nat → Nat) (j : Nat) : Bool := decide (48 ≤ b j ∧ b j ≤ 57)
def nt_bk (b : Nat → Nat) (j : Nat) : Bool := decide (b j = 32)
def nt_en (T : Nat) (b : Nat → Nat) (p : Nat) : Nat := if p < T then (if nt_la b p = true then nt_rn (nt_la b) T p else if nt_di b p = true then nt_rn (nt_di b) T p else p + 1) else p
def nt_sk (T : Nat) (b : Nat → Nat) (q : Nat) : Nat := nt_rn (nt_bk b) T q
def nt_nx (T : Nat) (b : Nat → Nat) (p : Nat) : Nat := nt_sk T b (nt_en T b p)
def nt_wd (T : Nat) (b : Nat → Nat) (p : Nat) : List Nat := (List.range (nt_en T b p - p)).map fun k => b (p + k)
def nt_w0 : List Nat := [102, 105, 103, 117, 114, 101]
def nt_w1 : List Nat := [109, 97, 114, 98, 108, 101]
def nt_w2 : List Nat := [103, 105, 114, 108]
def nt_w3 : List Nat := [109, 97, 116, 114, 111, 110]
def nt_w4 : List Nat := [110, 111, 118, 105, 99, 101]
def nt_w5 : List Nat := [100, 114, 101, 97, 109, 101, 114]
def nt_w6 : List Nat := [114, 101, 108, 105, 101, 118, 101]
def nt_w7 : List Nat := [107, 101, 101, 112]
def nt_w8 : List Nat := [115, 109, 111, 107, 101]
def nt_w9 : List Nat := [98, 101, 108, 108]
def nt_w10 : List Nat := [116, 105, 114, 101, 100]
def nt_w11 : List Nat := [103, 114, 97, 99, 101]
def nt_w12 : List Nat := [103, 117, 101, 115, 116, 115]
def nt_w13 : List Nat := [110, 117, 109, 98, 101, 114]
def nt_w14 : List Nat := [105, 102]
def nt_w15 : List Nat := [97, 110, 100]
def nt_w16 : List Nat := [111, 114]
def nt_w17 : List Nat := [110, 111, 116]
def nt_ixf : List (List Nat) → Nat → List Nat → Nat
  | [], _, _ => 20
  | w :: ws, k, l => if l = w then k else nt_ixf ws (k + 1) l
def nt_wds : List (List Nat) := [nt_w0, nt_w1, nt_w2, nt_w3, nt_w4, nt_w5, nt_w6, nt_w7, nt_w8, nt_w9, nt_w10, nt_w11, nt_w12, nt_w13, nt_w14, nt_w15, nt_w16, nt_w17]
def nt_ix (l : List Nat) : Nat := nt_ixf nt_wds 0 l
def nt_num (b : Nat → Nat) : Nat → Nat → Nat → Nat
  | 0, _, v => v
  | n + 1, p, v => nt_num b n (p + 1) (10 * v + (b p - 48))
abbrev nt_sg (c : Nat) : Prop := c = 59 ∨ c = 40 ∨ c = 41 ∨ (60 ≤ c ∧ c ≤ 62)
def nt_ty (T : Nat) (b : Nat → Nat) (p : Nat) : Nat := if p < T then (if nt_la b p = true then nt_ix (nt_wd T b p) else if nt_di b p = true then (if nt_en T b p - p ≤ 4 then 18 else 20) else if nt_sg (b p) then b p else 20) else 19
def nt_go (T : Nat) (b : Nat → Nat) (i : Nat) : Bool := decide (0 < i ∧ i < T) && ((nt_la b i && nt_la b (i - 1)) || (nt_di b i && nt_di b (i - 1)))
theorem nt_ld {b : Nat → Nat} {j : Nat} (h : nt_la b j = true) : nt_di b j = false ∧ nt_bk b j = false := by
  unfold nt_la at h
  rw [decide_eq_true_eq] at h
  unfold nt_di nt_bk
  exact ⟨decide_eq_false (by omega), decide_eq_false (by omega)⟩
theorem nt_dl {b : Nat → Nat} {j : Nat} (h : nt_di b j = true) : nt_la b j = false ∧ nt_bk b j = false := by
  unfold nt_di at h
  rw [decide_eq_true_eq] at h
  unfold nt_la nt_bk
  exact ⟨decide_eq_false (by omega), decide_eq_false (by omega)⟩
theorem nt_bd {b : Nat → Nat} {j : Nat} (h : nt_bk b j = true) : nt_la b j = false ∧ nt_di b j = false := by
  unfold nt_bk at h
  rw [decide_eq_true_eq] at h
  unfold nt_la nt_di
  exact ⟨decide_eq_false (by omega), decide_eq_false (by omega)⟩
theorem nt_en_T {T : Nat} {b : Nat → Nat} {p : Nat} (h : T ≤ p) : nt_en T b p = p := by
  unfold nt_en; rw [if_neg (by omega)]
theorem nt_en_l {T : Nat} {b : Nat → Nat} {p : Nat} (h : p < T) (hl : nt_la b p = true) : nt_en T b p = nt_rn (nt_la b) T p := by
  unfold nt_en; rw [if_pos h, if_pos hl]
theorem nt_en_d {T : Nat} {b : Nat → Nat} {p : Nat} (h : p < T) (hl : nt_di b p = true) : nt_en T b p = nt_rn (nt_di b) T p := by
  unfold nt_en; rw [if_pos h, if_neg (by rw [(nt_dl hl).1]; decide), if_pos hl]
theorem nt_en_o {T : Nat} {b : Nat → Nat} {p : Nat} (h : p < T) (hl : nt_la b p = false) (hd : nt_di b p = false) : nt_en T b p = p + 1 := by
  unfold nt_en; rw [if_pos h, if_neg (by rw [hl]; decide), if_neg (by rw [hd]; decide)]
theorem nt_en_p {T : Nat} {b : Nat → Nat} {p : Nat} : p ≤ nt_en T b p ∧ (p ≤ T → nt_en T b p ≤ T) ∧ (p < T → p < nt_en T b p) ∧ ∀ j, p < j → j < nt_en T b p → nt_go T b j = true ∧ nt_bk b j = false := by
  by_cases h : p < T
  · have go : ∀ j, 0 < j → j < T → (nt_la b j = true ∧ nt_la b (j - 1) = true ∨ nt_di b j = true ∧ nt_di b (j - 1) = true) → nt_go T b j = true := by
      intro j a c e
      unfold nt_go
      rw [decide_eq_true ⟨a, c⟩]
      rcases e with ⟨e1, e2⟩ | ⟨e1, e2⟩ <;> simp [e1, e2]
    by_cases hl : nt_la b p = true
    · rw [nt_en_l h hl, nt_rn_s h hl]
      obtain ⟨a, c, e, g⟩ := nt_rn_p (P := nt_la b) (T := T) (p + 1)
      refine ⟨by omega, fun _ => c (by omega), fun _ => by omega, fun j x y => ⟨go j (by omega) (e j (by omega) y).2 (Or.inl ⟨(e j (by omega) y).1, ?_⟩), (nt_ld (e j (by omega) y).1).2⟩⟩
      by_cases ej : j - 1 = p
      · rw [ej]; exact hl
      · exact (e (j - 1) (by omega) (by omega)).1
    · by_cases hd : nt_di b p = true
      · rw [nt_en_d h hd, nt_rn_s h hd]
        obtain ⟨a, c, e, g⟩ := nt_rn_p (P := nt_di b) (T := T) (p + 1)
        refine ⟨by omega, fun _ => c (by omega), fun _ => by omega, fun j x y => ⟨go j (by omega) (e j (by omega) y).2 (Or.inr ⟨(e j (by omega) y).1, ?_⟩), (nt_dl (e j (by omega) y).1).2⟩⟩
        by_cases ej : j - 1 = p
        · rw [ej]; exact hd
        · exact (e (j - 1) (by omega) (by omega)).1
      · rw [nt_en_o h (Bool.eq_false_iff.mpr hl) (Bool.eq_false_iff.mpr hd)]
        exact ⟨by omega, fun _ => by omega, fun _ => by omega, fun j x y => absurd y (by omega)⟩
  · rw [nt_en_T (by omega)]
    exact ⟨Nat.le_refl _, fun x => x, fun x => absurd x h, fun j x y => absurd y (by omega)⟩
/-- at a start's end nothing goes on -/
theorem nt_en_g {T : Nat} {b : Nat → Nat} {p : Nat} (h : p < T) : nt_go T b (nt_en T b p) = false := by
  have hp := nt_en_p (T := T) (b := b) (p := p)
  have h1 := hp.2.2.1 h
  unfold nt_go
  by_cases he : nt_en T b p < T
  · have key : ¬ (nt_la b (nt_en T b p) = true ∧ nt_la b (nt_en T b p - 1) = true) ∧ ¬ (nt_di b (nt_en T b p) = true ∧ nt_di b (nt_en T b p - 1) = true) := by
      by_cases hl : nt_la b p = true
      · rw [nt_en_l h hl] at he h1 ⊢
        obtain ⟨a, c, e, g⟩ := nt_rn_p (P := nt_la b) (T := T) p
        refine ⟨fun x => ?_, fun x => ?_⟩
        · rw [g he] at x; exact absurd x.1 (by decide)
        · have := nt_ld (e (nt_rn (nt_la b) T p - 1) (by omega) (by omega)).1
          rw [this.1] at x; exact absurd x.2 (by decide)
      · by_cases hd : nt_di b p = true
        · rw [nt_en_d h hd] at he h1 ⊢
          obtain ⟨a, c, e, g⟩ := nt_rn_p (P := nt_di b) (T := T) p
          refine ⟨fun x => ?_, fun x => ?_⟩
          · have := nt_dl (e (nt_rn (nt_di b) T p - 1) (by omega) (by omega)).1
            rw [this.1] at x; exact absurd x.2 (by decide)
          · rw [g he] at x; exact absurd x.1 (by decide)
        · rw [nt_en_o h (Bool.eq_false_iff.mpr hl) (Bool.eq_false_iff.mpr hd), Nat.add_sub_cancel]
          exact ⟨fun x => hl x.2, fun x => hd x.2⟩
    rw [decide_eq_true ⟨by omega, he⟩]
    have k1 : (nt_la b (nt_en T b p) && nt_la b (nt_en T b p - 1)) = false := Bool.eq_false_iff.mpr fun x => key.1 (Bool.and_eq_true_iff.mp x)
    have k2 : (nt_di b (nt_en T b p) && nt_di b (nt_en T b p - 1)) = false := Bool.eq_false_iff.mpr fun x => key.2 (Bool.and_eq_true_iff.mp x)
    rw [k1, k2]; rfl
  · rw [decide_eq_false (by omega)]; rfl
theorem nt_sk_p {T : Nat} {b : Nat → Nat} (q : Nat) : q ≤ nt_sk T b q ∧ (q ≤ T → nt_sk T b q ≤ T) ∧ (∀ j, q ≤ j → j < nt_sk T b q → nt_bk b j = true) ∧ (nt_sk T b q < T → nt_bk b (nt_sk T b q) = false) := by
  obtain ⟨a, c, e, g⟩ := nt_rn_p (P := nt_bk b) (T := T) q
  exact ⟨a, c, fun j x y => (e j x y).1, g⟩
/-- a start: no blank stands there, and nothing goes on there -/
def nt_st (T : Nat) (b : Nat → Nat) (p : Nat) : Prop := p ≤ T ∧ (p < T → nt_bk b p = false ∧ nt_go T b p = false)
theorem nt_st_sk {T : Nat} {b : Nat → Nat} {q : Nat} (hq : q ≤ T) (hg : nt_go T b q = false) : nt_st T b (nt_sk T b q) := by
  obtain ⟨a, c, e, g⟩ := nt_sk_p (T := T) (b := b) q
  refine ⟨c hq, fun h => ⟨g h, ?_⟩⟩
  by_cases eq : nt_sk T b q = q
  · rw [eq]; exact hg
  · have := nt_bd (e (nt_sk T b q - 1) (by omega) (by omega))
    unfold nt_go
    rw [this.1, this.2, Bool.and_false, Bool.and_false]
    simp
theorem nt_st_nx {T : Nat} {b : Nat → Nat} {p : Nat} (h : nt_st T b p) : nt_st T b (nt_nx T b p) := by
  have hp := nt_en_p (T := T) (b := b) (p := p)
  by_cases hT : p < T
  · exact nt_st_sk (hp.2.1 h.1) (nt_en_g hT)
  · refine nt_st_sk (hp.2.1 h.1) ?_
    rw [nt_en_T (by omega)]
    unfold nt_go
    rw [decide_eq_false (by omega)]; rfl
theorem nt_nx_T {T : Nat} {b : Nat → Nat} : nt_nx T b T = T := by
  unfold nt_nx
  rw [nt_en_T (Nat.le_refl _)]
  exact nt_rn_z (by omega)
theorem nt_nx_l {T : Nat} {b : Nat → Nat} {p : Nat} : nt_en T b p ≤ nt_nx T b p := (nt_sk_p _).1
theorem nt_nx_lt {T : Nat} {b : Nat → Nat} {p : Nat} (h : p < T) : p + 1 ≤ nt_nx T b p := by
  have := nt_en_p (T := T) (b := b) (p := p)
  have := nt_nx_l (T := T) (b := b) (p := p)
  omega
theorem nt_nx_le {T : Nat} {b : Nat → Nat} {p : Nat} (h : p ≤ T) : nt_nx T b p ≤ T := by
  have := nt_en_p (T := T) (b := b) (p := p)
  exact (nt_sk_p _).2.1 (this.2.1 h)
theorem nt_ixf_m : ∀ (ws : List (List Nat)) (k : Nat) (l : List Nat), nt_ixf ws k l = 20 ∨ l ∈ ws := by
  intro ws
  induction ws with
  | nil => intro k l; exact Or.inl rfl
  | cons w ws ih =>
    intro k l
    by_cases h : l = w
    · exact Or.inr (by rw [h]; exact List.mem_cons_self ..)
    · rw [nt_ixf, if_neg h]
      rcases ih (k + 1) l with x | x
      · exact Or.inl x
      · exact Or.inr (List.mem_cons_of_mem _ x)
theorem nt_ix_m (l : List Nat) : nt_ix l = 20 ∨ l ∈ nt_wds := nt_ixf_m _ _ _
theorem nt_ix_w : ∀ l, l ∈ nt_wds → nt_ix l < 18 ∧ 2 ≤ l.length ∧ l.length ≤ 7 ∧ nt_wds[nt_ix l]? = some l := by decide +kernel
theorem nt_ix_e (l : List Nat) {k : Nat} (h : nt_ix l = k) (hk : k < 18) : nt_wds[k]? = some l := by
  rcases nt_ix_m l with x | x
  · omega
  · have := (nt_ix_w l x).2.2.2
    rw [h] at this; exact this
theorem nt_wd_len {T : Nat} {b : Nat → Nat} {p : Nat} : (nt_wd T b p).length = nt_en T b p - p := by
  unfold nt_wd; rw [List.length_map, List.length_range]
/-- a word takes two letters and more -/
theorem nt_ty_w {T : Nat} {b : Nat → Nat} {p : Nat} (h : nt_ty T b p < 18) : p < T ∧ nt_la b p = true ∧ nt_ix (nt_wd T b p) = nt_ty T b p ∧ p + 2 ≤ nt_nx T b p := by
  have hT : p < T := by
    refine Classical.byContradiction fun q => ?_
    unfold nt_ty at h
    rw [if_neg q] at h; exact absurd h (by decide)
  have hl : nt_la b p = true := by
    refine Classical.byContradiction fun q => ?_
    unfold nt_ty at h
    rw [if_pos hT, if_neg q] at h
    unfold nt_sg at h
    split at h
    · split at h <;> omega
    · split at h <;> omega
  have e : nt_ix (nt_wd T b p) = nt_ty T b p := by
    unfold nt_ty; rw [if_pos hT, if_pos hl]
  refine ⟨hT, hl, e, ?_⟩
  rcases nt_ix_m (nt_wd T b p) with x | x
  · omega
  · have := (nt_ix_w _ x).2.1
    rw [nt_wd_len] at this
    have := nt_nx_l (T := T) (b := b) (p := p)
    omega
