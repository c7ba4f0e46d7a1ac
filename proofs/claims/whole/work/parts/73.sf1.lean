/-! both: shelves -/
/-- of each shelf: what it holds (0 nothing, 1 a figure, 2 a row), which, how many -/
abbrev nz_hf : Type := (Nat → Nat) × (Nat → Nat) × (Nat → Nat)
def nz_HV (h : nz_hf) : Prop := ∀ t, t < 4 → h.1 t ≤ 2 ∧ (h.1 t = 1 → h.2.1 t ≤ 5) ∧ (h.1 t = 2 → h.2.1 t ≤ 4 ∧ h.2.2 t ≤ 40)
def ny_HM (I : ny_I) (h : nz_hf) : Prop := ∀ t, t < 4 → I 116 t = nI (h.1 t) ∧ (h.1 t ≠ 0 → I 117 t = nI (h.2.1 t)) ∧ (h.1 t = 2 → I 118 t = nI (h.2.2 t))
def ny_HC (I : ny_I) (h : nz_hf) : Prop := ∀ t, t < 4 → I (98 + t) 0 = (if h.1 t = 1 then nI (h.2.1 t) else nI 4294967293) ∧ I (98 + t) 1 = (if h.1 t = 2 then nI (h.2.1 t) else nI 4294967295) ∧ (h.1 t = 2 → I (98 + t) 2 = nI (h.2.2 t))
def nz_hs (h : nz_hf) (t w v m : Nat) : nz_hf := (fun q => if q = t then w else h.1 q, fun q => if q = t then v else h.2.1 q, fun q => if q = t then m else h.2.2 q)
def o_shelf (x y z : Int32) (s : nz_sh) (a : ny_a) (h : nz_hf) : Int32 × nz_hf := match nz_in 0 3 x, nz_in 0 2 y with
  | some t, some w => if w = 0 then (match nz_fg a z with
      | some k => (nI 1, nz_hs h t 1 k 0)
      | none => (nI 4294967295, h)) else if w = 1 then (match nz_in 0 3 z with
      | some q => (nI 1, if s.1 q = 5 then nz_hs h t 0 0 0 else nz_hs h t 2 (s.1 q) (s.2.1 q))
      | none => (nI 4294967295, h)) else (nI 1, nz_hs h t 0 0 0)
  | _, _ => (nI 4294967295, h)
def o_taken (x y : Int32) (a : ny_a) (h : nz_hf) : Int32 := match nz_in 0 3 x with
  | none => nI 4294967295
  | some t => match nz_in 0 5 y with
    | some as => if h.1 t = 1 ∧ h.2.1 t < a 0 then (if ny_und (a (8 + 5 * h.2.1 t)) as then nI (h.2.1 t) else nI 4294967283) else if h.1 t = 2 then nI 4294967283 else nI 4294967285
    | none => match nz_in 10 14 y with
      | some q => if h.1 t = 2 then (if h.2.1 t = q - 10 then nI (h.2.2 t) else nI 4294967283) else if h.1 t = 1 ∧ h.2.1 t < a 0 then nI 4294967283 else nI 4294967285
      | none => nI 4294967295
theorem nz_hs_V {h : nz_hf} {t w v m : Nat} (hV : nz_HV h) (hw : w ≤ 2) (hv : w = 1 → v ≤ 5) (hm : w = 2 → v ≤ 4 ∧ m ≤ 40) : nz_HV (nz_hs h t w v m) := by
  intro q hq
  have := hV q hq
  by_cases c : q = t
  · simp only [nz_hs, if_pos c]
    exact ⟨hw, hv, hm⟩
  · simp only [nz_hs, if_neg c]
    exact this
theorem nz_hs_M {I I' : ny_I} {h : nz_hf} {t w v m : Nat} (hM : ny_HM I h) (h6 : ∀ q, I' 116 q = if q = t then nI w else I 116 q) (h7 : ∀ q, q ≠ t → I' 117 q = I 117 q) (h7t : w ≠ 0 → I' 117 t = nI v) (h8 : ∀ q, q ≠ t → I' 118 q = I 118 q) (h8t : w = 2 → I' 118 t = nI m) : ny_HM I' (nz_hs h t w v m) := by
  intro q hq
  have := hM q hq
  by_cases c : q = t
  · subst c
    simp only [nz_hs, if_pos]
    exact ⟨by rw [h6, if_pos rfl], h7t, h8t⟩
  · simp only [nz_hs, if_neg c]
    rw [h6, if_neg c, h7 q c, h8 q c]
    exact this
theorem nz_hs_C {I I' : ny_I} {h : nz_hf} {t w v m : Nat} (hM : ny_HC I h) (hc : ∀ q, q < 4 → q ≠ t → I' (98 + q) = I (98 + q)) (h0 : I' (98 + t) 0 = (if w = 1 then nI v else nI 4294967293)) (h1 : I' (98 + t) 1 = (if w = 2 then nI v else nI 4294967295)) (h2 : w = 2 → I' (98 + t) 2 = nI m) : ny_HC I' (nz_hs h t w v m) := by
  intro q hq
  have := hM q hq
  by_cases c : q = t
  · subst c
    simp only [nz_hs, if_pos]
    exact ⟨h0, h1, h2⟩
  · simp only [nz_hs, if_neg c]
    rw [hc q hq c]
    exact this
theorem nz_in10 {y : Int32} : (∀ w, w ≤ 4 → ¬ y - 10 = nI w) ∨ ∃ w, w ≤ 4 ∧ y - 10 = nI w ∧ y = nI (10 + w) := by
  by_cases c : ∃ w, w ≤ 4 ∧ y - 10 = nI w
  · obtain ⟨w, hw, e⟩ := c
    refine Or.inr ⟨w, hw, e, ?_⟩
    have : y = y - 10 + 10 := (Int32.sub_add_cancel y 10).symm
    rw [this, e, Nat.add_comm]
    exact nI_add w 10
  · exact Or.inl fun w hw e => c ⟨w, hw, e⟩
theorem nz_s10 (w : Nat) : nI (10 + w) - 10 = nI w := by
  rw [ny_lit, pk_sub (by show 10 ≤ 10 + w; omega)]
  exact congrArg nI (by show 10 + w - 10 = w; omega)
section NZSF
variable {d Ln : Nat} {I : ny_I} {Q : Int32 → ny_I → Prop} {Q0 : ny_I → Prop} {a : ny_a} {s : nz_sh} {hf : nz_hf}
theorem q_Md_shelf {x y z : Int32} (ha : ny_Md I a) (hV : ny_V a) (hM : ny_SM I s) (hS : nz_SV s) (hH : ny_HM I hf) (h : ∀ I', (∀ c, c ≠ 116 → c ≠ 117 → c ≠ 118 → I' c = I c) → ny_HM I' (o_shelf x y z s a hf).2 → Q (o_shelf x y z s a hf).1 I') : ny_C1 (d + 2) m_Md_shelf [.ref 102, .int x, .int y, .int z] Ln I Q := by
  have no : o_shelf x y z s a hf = (nI 4294967295, hf) → Q (-1) I := fun e => by
    rw [e] at h; rw [ny_m1]; exact h I (fun _ _ _ _ => rfl) hH
  refine s_Md_shelf_0 (q_Md_isShelf (fun t et ht ex => ⟨fun q => absurd q (by decide), fun _ => q_Md_I 0 2 rfl rfl (by decide) (by decide) (fun w ew _ hw ey => ⟨fun q => absurd q (by decide), fun _ => ?_⟩) (fun ew => ⟨fun _ => no (by simp only [o_shelf, et, ew]), fun q => absurd rfl q⟩)⟩) fun et => ⟨fun _ => no (by simp only [o_shelf, et]), fun q => absurd rfl q⟩)
  subst ex ey
  have it : ny_in (nI t) 4 = true := ny_inN (by omega) (by decide)
  -- nothing more is held
  have clr : ∀ (w v : Nat) (z2 : Int32), (w = 1 ∧ z2 = nI v ∨ w = 0) → ∀ (I2 : ny_I), (∀ c, c ≠ 116 → I2 c = I c) → (∀ q, I2 116 q = if q = t then nI w else I 116 q) → (∀ I', (∀ c, c ≠ 116 → c ≠ 117 → c ≠ 118 → I' c = I c) → ny_HM I' (nz_hs hf t w v 0) → Q (nI 1) I') → ny_g (d + 2) m_Md_shelf 118 [(0, .ref 102), (1, .int (nI t)), (3, .int z), (4, .int (nI 0))] [.int z2, .int (nI t), .ref 117] Ln I2 (ny_r1 Ln Q) := by
    intro w v z2 hw I2 hc h6 hQ
    refine s_Md_shelf_118 ⟨it, fun _ => ⟨it, ?_⟩, fun q => absurd rfl q⟩
    rw [nI_clamp (by omega)]
    refine hQ _ (fun c x y z => by rw [ny_upne _ z, ny_upne _ y]; exact hc c x) (nz_hs_M hH (fun q => by rw [ny_upne _ (by decide), ny_upne _ (by decide)]; exact h6 q) (fun q hq => ?_) (fun hw0 => ?_) (fun q hq => ?_) (fun q => by omega))
    · simp (disch := omega) only [ny_uprd, if_neg]; rw [hc 117 (by decide)]
    · simp (disch := omega) only [ny_uprd, if_neg, if_true, and_self]
      rcases hw with ⟨-, e⟩ | e
      · exact e
      · exact absurd e hw0
    · simp (disch := omega) only [ny_uprd, if_neg]; rw [hc 118 (by decide)]
  have i0 : Int32.toNatClampNeg 0 = 0 := rfl
  have hw3 : w = 0 ∨ w = 1 ∨ w = 2 := by omega
  rcases hw3 with rfl | rfl | rfl
  · refine ⟨fun q => absurd rfl q, fun _ => q_Md_O ha hV (fun k ek hk ez => ⟨fun q => absurd q (by decide), fun _ => ?_⟩) fun ek => ⟨fun _ => no (by simp only [o_shelf, et, ew, ek]; rfl), fun q => absurd rfl q⟩⟩
    simp only [o_shelf, et, ew, ek, if_true] at h
    refine s_Md_shelf_31 ⟨fun _ => s_Md_shelf_45 ⟨fun _ => ⟨fun q => absurd rfl q, fun _ => ?_⟩, fun q => absurd q (by decide)⟩, fun q => absurd q (by decide)⟩
    refine s_Md_shelf_89 ⟨it, fun q => absurd rfl q, fun _ => ?_⟩
    rw [nI_clamp (by omega)]
    exact clr 1 k z (Or.inl ⟨rfl, ez⟩) _ (fun c x => ny_upne _ x _ _) (fun q => by rw [ny_upeq]; rfl) h
  · refine ⟨fun _ => s_Md_shelf_31 ⟨fun q => absurd rfl q, fun _ => q_Md_isSheet (fun q eq hq ez => ⟨fun _ => ?_, fun q => absurd q (by decide)⟩) fun eq => ⟨fun q => absurd rfl q, fun _ => no (by simp only [o_shelf, et, ew, eq]; rfl)⟩⟩, fun q => absurd q (by decide)⟩
    have iq : ny_in (nI q) 4 = true := ny_inN (by omega) (by decide)
    have sv := hS q (by omega)
    have sm := hM q (by omega)
    subst ez
    refine s_Md_shelf_45 ⟨fun q => absurd rfl q, fun _ => ⟨iq, ?_⟩⟩
    rw [nI_clamp (by omega), sm.1]
    have lt0 : nz_sv (s.1 q) < 0 ↔ s.1 q = 5 := by
      have := nz_sv_0 sv.1
      constructor
      · intro c
        apply Classical.byContradiction
        intro c2
        exact absurd c (Int32.not_lt.mpr (this.mpr c2))
      · intro c
        apply Classical.byContradiction
        intro c2
        exact absurd c (this.mp (Int32.not_lt.mp c2))
    rw [lt0]
    have h1 : o_shelf (nI t) (nI 1) (nI q) s a hf = (nI 1, if s.1 q = 5 then nz_hs hf t 0 0 0 else nz_hs hf t 2 (s.1 q) (s.2.1 q)) := by simp only [o_shelf, et, ew, eq]; rfl
    rw [h1] at h
    refine ⟨fun c => ⟨fun _ => ?_, fun q => absurd q (by decide)⟩, fun c => ⟨fun _ => ?_, fun q => absurd q (by decide)⟩⟩
    · rw [if_pos c] at h
      refine s_Md_shelf_89 ⟨it, fun _ => ⟨fun _ => ?_, fun q => absurd rfl q⟩, fun q => absurd q (by decide)⟩
      rw [nI_clamp (by omega)]
      exact s_Md_shelf_118 ⟨it, fun _ => ⟨it, by
        rw [nI_clamp (by omega)]
        refine h _ (fun c x y z => by rw [ny_upne _ z, ny_upne _ y, ny_upne _ x]) (nz_hs_M hH (fun q => by rw [ny_upne _ (by decide), ny_upne _ (by decide), ny_upeq]; rfl) (fun q hq => ?_) (fun hw0 => absurd rfl hw0) (fun q hq => ?_) (fun q => absurd q (by decide)))
        · simp (disch := omega) only [ny_uprd, if_neg]
        · simp (disch := omega) only [ny_uprd, if_neg]⟩, fun q => absurd rfl q⟩
    · rw [if_neg c] at h
      refine s_Md_shelf_89 ⟨it, fun _ => ⟨fun q => absurd q (by decide), fun _ => ⟨iq, ?_⟩⟩, fun q => absurd q (by decide)⟩
      rw [nI_clamp (by omega), nI_clamp (by omega)]
      refine s_Md_shelf_118 ⟨it, fun q => absurd q (by decide), fun _ => ⟨iq, it, ?_⟩⟩
      rw [nI_clamp (by omega), nI_clamp (by omega)]
      refine h _ (fun c x y z => by rw [ny_upne _ z, ny_upne _ y, ny_upne _ x]) (nz_hs_M hH (fun q => by rw [ny_upne _ (by decide), ny_upne _ (by decide), ny_upeq]; rfl) (fun q hq => ?_) (fun hw0 => ?_) (fun q hq => ?_) (fun _ => ?_))
      · simp (disch := omega) only [ny_uprd, if_neg]
      · simp (disch := omega) only [ny_uprd, if_neg, if_true, and_self]
        rw [sm.1, nz_sv, if_neg c]
      · simp (disch := omega) only [ny_uprd, if_neg]
      · simp (disch := omega) only [ny_uprd, if_neg, if_true, and_self]
        exact sm.2.1
  · have h1 : o_shelf (nI t) (nI 2) z s a hf = (nI 1, nz_hs hf t 0 0 0) := by simp only [o_shelf, et, ew]; rfl
    rw [h1] at h
    refine ⟨fun _ => s_Md_shelf_31 ⟨fun _ => s_Md_shelf_45 ⟨fun _ => ⟨fun _ => s_Md_shelf_89 ⟨it, fun _ => ⟨fun _ => ?_, fun q => absurd rfl q⟩, fun q => absurd q (by decide)⟩, fun q => absurd q (by decide)⟩, fun q => absurd q (by decide)⟩, fun q => absurd q (by decide)⟩, fun q => absurd q (by decide)⟩
    rw [nI_clamp (by omega)]
    exact clr 0 0 0 (Or.inr rfl) _ (fun c x => ny_upne _ x _ _) (fun q => by rw [ny_upeq]; rfl) h
end NZSF
