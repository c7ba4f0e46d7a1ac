/-! the class: which words lie on the tape -/
theorem nt_sbl : ∀ c, c < 256 → ((nt_sb c < 97 ↔ c < 97 ∨ 128 ≤ c) ∧ (122 < nt_sb c ↔ 122 < c ∧ c < 128)) ∧ ((nt_sb c < 48 ↔ c < 48 ∨ 128 ≤ c) ∧ (57 < nt_sb c ↔ 57 < c ∧ c < 128)) ∧ (nt_sb c = 59 ↔ c = 59) ∧ (nt_sb c = 40 ↔ c = 40) ∧ (nt_sb c = 41 ↔ c = 41) ∧ (nt_sb c < 60 ↔ c < 60 ∨ 128 ≤ c) ∧ (62 < nt_sb c ↔ 62 < c ∧ c < 128) ∧ (nt_sb c = 32 ↔ c = 32) ∧ (c < 128 → nt_sb c = nI c) ∧ (128 ≤ c → nt_sb c < 0) := by decide +kernel
theorem nt_sb_e {x c : Nat} (hx : x < 256) (hc : c < 128) : nt_sb x = nI c ↔ x = c := by
  have s := nt_sbl x hx
  rcases Nat.lt_or_ge x 128 with h | h
  · rw [s.2.2.2.2.2.2.2.2.1 h]; exact ny_eq (by omega) (by omega)
  · refine ⟨fun q => ?_, fun q => absurd q (by omega)⟩
    have := s.2.2.2.2.2.2.2.2.2 h
    rw [q] at this
    exact absurd ((ny_lt (b := 0) (by omega) (by omega)).mp this) (by omega)
def nt_by2 (p e : Nat) (b : Nat → Nat) : List Nat := (List.range (e - p)).map fun k => b (p + k)
def nt_wa (b : Nat → Nat) (p e : Nat) : List Nat → Nat → Option Nat → Nat
  | [], _, _ => 20
  | c :: cs, w, s => if c = 32 then (if s = some e then w else nt_wa b p e cs (w + 1) (some p)) else nt_wa b p e cs w (match s with | some q => if q < e ∧ b q = c then some (q + 1) else none | none => none)
theorem nt_by2_s {p e : Nat} {b : Nat → Nat} (h : p < e) : nt_by2 p e b = b p :: nt_by2 (p + 1) e b := by
  unfold nt_by2
  rw [show e - p = (e - (p + 1)) + 1 by omega, List.range_succ_eq_map, List.map_cons, List.map_map]
  congr 1
  refine List.map_congr_left fun k _ => ?_
  show b (p + (k + 1)) = b (p + 1 + k)
  rw [show p + (k + 1) = p + 1 + k by omega]
theorem nt_by2_z {p : Nat} {b : Nat → Nat} : nt_by2 p p b = [] := by
  unfold nt_by2; rw [Nat.sub_self]; rfl
theorem nt_wa_n {b : Nat → Nat} {p e : Nat} (cs : List Nat) : ∀ (v : List Nat) (w : Nat), (∀ c ∈ v, c ≠ 32) → nt_wa b p e (v ++ 32 :: cs) w none = nt_wa b p e cs (w + 1) (some p) := by
  intro v
  induction v with
  | nil => intro w _; rfl
  | cons c v ih =>
    intro w hv
    rw [List.cons_append, nt_wa, if_neg (hv c (List.mem_cons_self ..))]
    exact ih w fun x hx => hv x (List.mem_cons_of_mem _ hx)
theorem nt_wa_s {b : Nat → Nat} {p e : Nat} (cs : List Nat) : ∀ (v : List Nat) (w q : Nat), (∀ c ∈ v, c ≠ 32) → q ≤ e → nt_wa b p e (v ++ 32 :: cs) w (some q) = if nt_by2 q e b = v then w else nt_wa b p e cs (w + 1) (some p) := by
  intro v
  induction v with
  | nil =>
    intro w q _ hq
    show (if some q = some e then w else _) = _
    by_cases h : q = e
    · subst h; rw [if_pos rfl, nt_by2_z, if_pos rfl]
    · rw [if_neg (fun x => h (Option.some.inj x)), nt_by2_s (by omega), if_neg (by simp)]
  | cons c v ih =>
    intro w q hv hq
    rw [List.cons_append, nt_wa, if_neg (hv c (List.mem_cons_self ..))]
    have hv2 : ∀ c ∈ v, c ≠ 32 := fun x hx => hv x (List.mem_cons_of_mem _ hx)
    by_cases h : q < e
    · by_cases hb : b q = c
      · show nt_wa b p e (v ++ 32 :: cs) w (if q < e ∧ b q = c then some (q + 1) else none) = _
        rw [if_pos ⟨h, hb⟩, ih w (q + 1) hv2 (by omega), nt_by2_s h, hb]
        by_cases hz : nt_by2 (q + 1) e b = v
        · rw [if_pos hz, if_pos (by rw [hz])]
        · rw [if_neg hz, if_neg (fun x => hz (List.cons.inj x).2)]
      · show nt_wa b p e (v ++ 32 :: cs) w (if q < e ∧ b q = c then some (q + 1) else none) = _
        rw [if_neg (fun x => hb x.2), nt_wa_n cs v w hv2, nt_by2_s h, if_neg (fun x => hb (List.cons.inj x).1)]
    · show nt_wa b p e (v ++ 32 :: cs) w (if q < e ∧ b q = c then some (q + 1) else none) = _
      rw [if_neg (fun x => h x.1), nt_wa_n cs v w hv2, show q = e by omega, nt_by2_z, if_neg (by simp)]
def nt_flat : List (List Nat) → List Nat
  | [] => []
  | w :: ws => w ++ 32 :: nt_flat ws
theorem nt_wa_f {b : Nat → Nat} {p e : Nat} (hp : p ≤ e) : ∀ (ws : List (List Nat)) (k : Nat), (∀ w ∈ ws, ∀ c ∈ w, c ≠ 32) → nt_wa b p e (nt_flat ws) k (some p) = nt_ixf ws k (nt_by2 p e b) := by
  intro ws
  induction ws with
  | nil => intro k _; rfl
  | cons w ws ih =>
    intro k h
    rw [nt_flat, nt_wa_s _ _ _ _ (h w (List.mem_cons_self ..)) hp, nt_ixf, ih (k + 1) fun x hx => h x (List.mem_cons_of_mem _ hx)]
def nt_tx : List Nat := nt_flat nt_wds
theorem nt_tx_len : nt_tx.length = 105 := by decide +kernel
theorem nt_tx_lt : ∀ i, i < 105 → nt_tx.getD i 0 < 128 := by decide +kernel
theorem nt_tx_ch : ∀ i, i < 105 → ((ny_by (nI i).toNatClampNeg &&& (255 : Int32)).toUInt32 % 65536).toInt32 = nI (nt_tx.getD i 0) := by decide +kernel
theorem nt_nar : ∀ c, c < 128 → (((nI c).toUInt32 % 65536).toInt32) = nI c := by decide +kernel
theorem nt_drop {i : Nat} {c : Nat} {cs : List Nat} (h : nt_tx.drop i = c :: cs) : i < 105 ∧ nt_tx.getD i 0 = c ∧ nt_tx.drop (i + 1) = cs := by
  have hi : i < nt_tx.length := by
    refine Classical.byContradiction fun q => ?_
    rw [List.drop_eq_nil_of_le (by omega)] at h
    exact absurd h (by simp)
  rw [List.drop_eq_getElem_cons hi] at h
  injection h with h1 h2
  refine ⟨by rw [nt_tx_len] at hi; exact hi, ?_, h2⟩
  rw [List.getD_eq_getElem?_getD, List.getElem?_eq_getElem hi]
  exact h1
def nt_T (I : ny_I) : Prop := I 2 0 = 0 ∧ I 3 = ny_by
section NZLX
variable {d Ln : Nat} {I : ny_I} {Q : Int32 → ny_I → Prop} {Q0 : ny_I → Prop} {T : Nat} {b : Nat → Nat}
theorem q_Ta_isLetter {j : Nat} (hb : b j < 256) (h : Q (if nt_la b j = true then nI 1 else nI 0) I) : ny_C1 d m_Ta_isLetter [.int (nt_sb (b j))] Ln I Q := by
  refine s_Ta_isLetter_0 ?_
  have s := (nt_sbl _ hb).1
  unfold nt_la at h
  simp only [decide_eq_true_eq] at h
  rw [s.1, s.2]
  refine ⟨fun c => ?_, fun c => ⟨fun c2 => ?_, fun c2 => ?_⟩⟩
  · rw [if_neg (by omega)] at h; exact h
  · rw [if_neg (by omega)] at h; exact h
  · rw [if_pos (by omega)] at h; exact h
theorem q_Ta_isDigit {j : Nat} (hb : b j < 256) (h : Q (if nt_di b j = true then nI 1 else nI 0) I) : ny_C1 d m_Ta_isDigit [.int (nt_sb (b j))] Ln I Q := by
  refine s_Ta_isDigit_0 ?_
  have s := (nt_sbl _ hb).2.1
  unfold nt_di at h
  simp only [decide_eq_true_eq] at h
  rw [s.1, s.2]
  refine ⟨fun c => ?_, fun c => ⟨fun c2 => ?_, fun c2 => ?_⟩⟩
  · rw [if_neg (by omega)] at h; exact h
  · rw [if_neg (by omega)] at h; exact h
  · rw [if_pos (by omega)] at h; exact h
theorem q_Ta_isSign {c : Nat} (hb : c < 256) (h : Q (if nt_sg c then nI 1 else nI 0) I) : ny_C1 d m_Ta_isSign [.int (nt_sb c)] Ln I Q := by
  refine s_Ta_isSign_0 ?_
  obtain ⟨_, _, s1, s2, s3, s4, s5, _⟩ := nt_sbl _ hb
  rw [s1, s2, s3, s4, s5]
  unfold nt_sg at h
  refine ⟨fun c1 => ?_, fun c1 => ⟨fun c2 => ?_, fun c2 => ⟨fun c3 => ?_, fun c3 => ⟨fun c4 => ?_, fun c4 => ⟨fun c5 => ?_, fun c5 => ?_⟩⟩⟩⟩⟩
  · rw [if_pos (by omega)] at h; exact h
  · rw [if_pos (by omega)] at h; exact h
  · rw [if_pos (by omega)] at h; exact h
  · rw [if_neg (by omega)] at h; exact h
  · rw [if_neg (by omega)] at h; exact h
  · rw [if_pos (by omega)] at h; exact h
theorem q_Ta_goesOn {i : Nat} (hC : nt_C I T b) (hV : nt_V T b) (hi : i < T) (h : Q (if nt_go T b i = true then nI 1 else nI 0) I) : ny_C1 (d + 1) m_Ta_goesOn [.ref 54, .int (nI i)] Ln I Q := by
  have v := hV.1
  refine s_Ta_goesOn_0 ?_
  rw [hC.1]
  simp (disch := omega) only [ny_lit, nI_add, ny_mul, nI_clamp, ny_le, ny_lt, ny_eq, ny_div, ny_rem, ny_rem2, ny_inN]
  unfold nt_go at h
  refine ⟨fun c => ?_, fun c => ⟨fun _ => ⟨trivial, ?_⟩, fun q => absurd hi q⟩⟩
  · rw [if_neg (by rw [decide_eq_false (by omega)]; simp)] at h; exact h
  · rw [decide_eq_true (by omega), Bool.true_and] at h
    have e1 : nI i - nI 1 = nI (i - 1) := pk_sub (b := 1) (by omega)
    have e0 : nI i - 1 = nI (i - 1) := e1
    have h40 : nt_la b i = false ∨ nt_la b (i - 1) = false → ny_g (d + 1) m_Ta_goesOn 40 [(0, .ref 54), (1, .int (nI i))] [] Ln I (ny_r1 Ln Q) := by
      intro hn
      have hl : (nt_la b i && nt_la b (i - 1)) = false := by
        rcases hn with x | x <;> rw [x]
        · rfl
        · exact Bool.and_false _
      rw [hl, Bool.false_or] at h
      refine s_Ta_goesOn_40 ?_
      rw [e0]
      simp (disch := omega) only [ny_lit, nI_add, ny_mul, nI_clamp, ny_le, ny_lt, ny_eq, ny_div, ny_rem, ny_rem2, ny_inN]
      rw [hC.2 i hi]
      refine ⟨trivial, q_Ta_isDigit (hV.2 i hi) ?_⟩
      by_cases c1 : nt_di b i = true
      · rw [if_pos c1]
        refine ⟨fun q => absurd q (by decide), fun _ => ⟨trivial, ?_⟩⟩
        rw [hC.2 (i - 1) (by omega)]
        refine q_Ta_isDigit (hV.2 (i - 1) (by omega)) ?_
        by_cases c2 : nt_di b (i - 1) = true
        · rw [if_pos c2]
          rw [if_pos (by rw [c1, c2]; rfl)] at h
          exact ⟨fun q => absurd q (by decide), fun _ => h⟩
        · rw [if_neg c2]
          rw [if_neg (by rw [c1, Bool.true_and]; exact c2)] at h
          exact ⟨fun _ => h, fun q => absurd rfl q⟩
      · rw [if_neg c1]
        rw [if_neg (by rw [Bool.eq_false_iff.mpr c1, Bool.false_and]; decide)] at h
        exact ⟨fun _ => h, fun q => absurd rfl q⟩
    rw [e1]
    simp (disch := omega) only [ny_lit, nI_add, ny_mul, nI_clamp, ny_le, ny_lt, ny_eq, ny_div, ny_rem, ny_rem2, ny_inN]
    rw [hC.2 i hi]
    refine q_Ta_isLetter (hV.2 i hi) ?_
    by_cases c1 : nt_la b i = true
    · rw [if_pos c1]
      refine ⟨fun q => absurd q (by decide), fun _ => ⟨trivial, ?_⟩⟩
      rw [hC.2 (i - 1) (by omega)]
      refine q_Ta_isLetter (hV.2 (i - 1) (by omega)) ?_
      by_cases c2 : nt_la b (i - 1) = true
      · rw [if_pos c2]
        rw [if_pos (by rw [c1, c2]; rfl)] at h
        exact ⟨fun _ => h, fun q => absurd q (by decide)⟩
      · rw [if_neg c2]
        exact ⟨fun q => absurd rfl q, fun _ => h40 (Or.inr (Bool.eq_false_iff.mpr c2))⟩
    · rw [if_neg c1]
      exact ⟨fun _ => h40 (Or.inl (Bool.eq_false_iff.mpr c1)), fun q => absurd rfl q⟩
theorem q_Ta_endOf {p : Nat} (hC : nt_C I T b) (hV : nt_V T b) (hp : p < T) (h : Q (nI (nt_en T b p)) I) : ny_C1 (d + 2) m_Ta_endOf [.ref 54, .int (nI p)] Ln I Q := by
  have v := hV.1
  obtain ⟨e1, e2, e3, e4⟩ := nt_en_p (T := T) (b := b) (p := p)
  have e2 := e2 (by omega)
  have e3 := e3 hp
  refine s_Ta_endOf_0 ?_
  rw [nI_1]
  have key : ∀ m j, p < j → j + m = nt_en T b p → ny_g (d + 2) m_Ta_endOf 4 [(0, .ref 54), (2, .int (nI j))] [] Ln I (ny_r1 Ln Q) := by
    intro m
    induction m with
    | zero =>
      intro j hj hm
      refine s_Ta_endOf_4 ?_
      rw [hC.1, ny_le (by omega) (by omega)]
      refine ⟨fun c => ?_, fun c => q_Ta_goesOn hC hV (by omega) ?_⟩
      · rw [show T = nt_en T b p by omega]; exact h
      · rw [show j = nt_en T b p by omega, nt_en_g hp]
        exact ⟨fun q => absurd rfl q, fun _ => h⟩
    | succ m ih =>
      intro j hj hm
      refine s_Ta_endOf_4 ?_
      rw [hC.1, ny_le (by omega) (by omega)]
      refine ⟨fun c => absurd c (by omega), fun c => q_Ta_goesOn hC hV (by omega) ?_⟩
      rw [(e4 j hj (by omega)).1, nI_1]
      exact ⟨fun _ => ih (j + 1) (by omega) (by omega), fun q => absurd q (by decide)⟩
  exact key (nt_en T b p - (p + 1)) (p + 1) (by omega) (by omega)
theorem q_Js_length (hT : nt_T I) (h : Q (nI 105) I) : ny_C1 (d + 1) m_Js_length [.ref 2] Ln I Q := by
  refine s_Js_length_0 (s_Js_coder_0 ?_)
  rw [hT.1]
  exact ⟨rfl, h⟩
theorem q_Js_charAt {i : Nat} (hT : nt_T I) (hi : i < 105) (h : Q (nI (nt_tx.getD i 0)) I) : ny_C1 (d + 4) m_Js_charAt [.ref 2, .int (nI i)] Ln I Q := by
  refine s_Js_charAt_0 (s_Js_isLatin1_0 ?_)
  rw [hT.1]
  refine ⟨fun q => absurd rfl q, fun _ => ⟨fun q => absurd q (by decide), fun _ => ?_⟩⟩
  refine s_Jl_charAt_0 (s_Js_checkIndex_0 (s_Jp_checkIndex_0 ?_))
  have n1 : ¬ nI i < 0 := fun q => absurd ((ny_lt (b := 0) (by omega) (by omega)).mp q) (by omega)
  refine ⟨fun q => absurd q n1, fun _ => ⟨fun _ => ⟨ny_inN (by omega) (by decide), ?_⟩, fun q => absurd ((ny_lt (by omega) (by omega)).mpr hi) q⟩⟩
  rw [hT.2, nt_tx_ch i hi]
  have hn : narrow .char (.int (nI (nt_tx.getD i 0))) = .int (nI (nt_tx.getD i 0)) := by
    show Value.int _ = Value.int _
    congr 1
    exact nt_nar _ (nt_tx_lt i hi)
  exact ⟨hn, hn, h⟩
end NZLX
