/-! what holds between two calls of the law -/
def nv_D (I : ny_I) (b : ny_a) (k T : Nat) (tb : Nat → Nat) (n : Nat) (r : nz_rw) (s : nz_sh) (hf : nz_hf) (tr : nz_tr) : Prop := (I 5 2 = nI k ∧ (k = 1 → ny_Cl (ny_sh I) b)) ∧ nt_C I T tb ∧ ny_RC I n r ∧ ny_SC I s ∧ ny_HC I hf ∧ nz_qC I tr ∧ nt_T I
def nv_E (I : ny_I) (b : ny_a) (k T : Nat) (tb : Nat → Nat) (n : Nat) (r : nz_rw) (s : nz_sh) (hf : nz_hf) (tr : nz_tr) : Prop := (I 102 2 = nI k ∧ (k = 1 → ∀ j, j < 572 → I 104 j = nI (b j))) ∧ nt_M I T tb ∧ ny_RM I n r ∧ ny_SM I s ∧ ny_HM I hf ∧ nz_qM I tr
def nv_V (b : ny_a) (k T : Nat) (tb : Nat → Nat) (n : Nat) (s : nz_sh) (hf : nz_hf) : Prop := ny_V b ∧ k ≤ 1 ∧ nt_V T tb ∧ n ≤ 4 ∧ nz_SV s ∧ nz_HV hf
def nv (I : ny_I) : Prop := ∃ (a b : ny_a) (k T : Nat) (tb : Nat → Nat) (n : Nat) (r : nz_rw) (s : nz_sh) (hf : nz_hf) (tr : nz_tr), ny_V a ∧ nv_V b k T tb n s hf ∧ ny_Cl I a ∧ nv_D I b k T tb n r s hf tr ∧ ny_Md I a ∧ nv_E I b k T tb n r s hf tr
section NV
variable {I I' : ny_I} {a b : ny_a} {k T : Nat} {tb : Nat → Nat} {n : Nat} {r : nz_rw} {s : nz_sh} {hf : nz_hf} {tr : nz_tr}
theorem nv_Kmv (hV : ny_V b) (h1 : I' 1 = I 1) (h5 : I' 5 2 = I 5 2) (h : ∀ c, 30 ≤ c → c ≤ 51 → I' c = I c) (hk : I 5 2 = nI k ∧ (k = 1 → ny_Cl (ny_sh I) b)) : I' 5 2 = nI k ∧ (k = 1 → ny_Cl (ny_sh I') b) := by
  refine ⟨h5.trans hk.1, fun q => nz_Cl_k hV ?_ (fun c j hr => ?_) (hk.2 q)⟩
  · show I' 1 = I 1; exact h1
  · have hc : 6 ≤ c ∧ c ≤ 27 := by unfold nz_rq at hr; omega
    unfold ny_sh
    rw [if_neg (by omega), if_neg (by omega), h (c + 24) (by omega) (by omega)]
theorem nv_Tmv (h1 : I' 54 1 = I 54 1) (h : I' 55 = I 55) (hk : nt_C I T tb) : nt_C I' T tb := ⟨h1.trans hk.1, fun j hj => by rw [h]; exact hk.2 j hj⟩
theorem nv_Rmv (h1 : I' 5 6 = I 5 6) (hn : n ≤ 4) (h : ∀ c, 82 ≤ c → c ≤ 85 → I' c = I c) (hk : ny_RC I n r) : ny_RC I' n r := ⟨h1.trans hk.1, fun q hq w hw => by rw [h (82 + q) (by omega) (by omega)]; exact hk.2 q hq w hw⟩
theorem nv_Smv (h : ∀ c, 90 ≤ c → c ≤ 97 → I' c = I c) (hk : ny_SC I s) : ny_SC I' s := fun t ht => by
  rw [h (90 + 2 * t) (by omega) (by omega), h (91 + 2 * t) (by omega) (by omega)]; exact hk t ht
theorem nv_Hmv (h : ∀ c, 98 ≤ c → c ≤ 101 → I' c = I c) (hk : ny_HC I hf) : ny_HC I' hf := fun t ht => by
  rw [h (98 + t) (by omega) (by omega)]; exact hk t ht
theorem nv_Qmv (h : I' 88 = I 88) (h2 : I' 89 = I 89) (hk : nz_qC I tr) : nz_qC I' tr := by
  unfold nz_qC; rw [h, h2]; exact hk
theorem nv_Xmv (h : I' 2 = I 2) (h2 : I' 3 = I 3) (hk : nt_T I) : nt_T I' := by
  unfold nt_T; rw [h, h2]; exact hk
theorem nv_Dmv (hV : nv_V b k T tb n s hf) (h5 : I' 5 2 = I 5 2) (h56 : I' 5 6 = I 5 6) (h54 : I' 54 1 = I 54 1) (h : ∀ c, (c = 1 ∨ c = 2 ∨ c = 3) ∨ (30 ≤ c ∧ c ≤ 51) ∨ c = 55 ∨ (82 ≤ c ∧ c ≤ 85) ∨ (88 ≤ c ∧ c ≤ 101) → I' c = I c) (hD : nv_D I b k T tb n r s hf tr) : nv_D I' b k T tb n r s hf tr := by
  obtain ⟨d1, d2, d3, d4, d5, d6, d7⟩ := hD
  exact ⟨nv_Kmv hV.1 (h 1 (by omega)) h5 (fun c x y => h c (by omega)) d1, nv_Tmv h54 (h 55 (by omega)) d2, nv_Rmv h56 hV.2.2.2.1 (fun c x y => h c (by omega)) d3, nv_Smv (fun c x y => h c (by omega)) d4, nv_Hmv (fun c x y => h c (by omega)) d5, nv_Qmv (h 88 (by omega)) (h 89 (by omega)) d6, nv_Xmv (h 2 (by omega)) (h 3 (by omega)) d7⟩
theorem nv_Emv (h2 : ∀ j, j = 2 ∨ j = 5 ∨ j = 27 ∨ j = 35 → I' 102 j = I 102 j) (h : ∀ c, c = 104 ∨ c = 106 ∨ (112 ≤ c ∧ c ≤ 119) → I' c = I c) (hE : nv_E I b k T tb n r s hf tr) : nv_E I' b k T tb n r s hf tr := by
  obtain ⟨⟨e1, e2⟩, e3, e4, e5, e6, e7⟩ := hE
  refine ⟨⟨(h2 2 (by omega)).trans e1, ?_⟩, ⟨(h2 5 (by omega)).trans e3.1, ?_⟩, ⟨(h2 27 (by omega)).trans e4.1, ?_⟩, ?_, ?_, ⟨(h2 35 (by omega)).trans e7.1, ?_⟩⟩
  · rw [h 104 (by omega)]; exact e2
  · rw [h 106 (by omega)]; exact e3.2
  · rw [h 112 (by omega)]; exact e4.2
  · unfold ny_SM; rw [h 113 (by omega), h 114 (by omega), h 115 (by omega)]; exact e5
  · unfold ny_HM; rw [h 116 (by omega), h 117 (by omega), h 118 (by omega)]; exact e6
  · rw [h 119 (by omega)]; exact e7.2
/-- a step of the class leaves the model, a step of the model the class -/
theorem nv_Mlow (h : ∀ c, 102 ≤ c → I' c = I c) (hM : ny_Md I a) (hE : nv_E I b k T tb n r s hf tr) : ny_Md I' a ∧ nv_E I' b k T tb n r s hf tr :=
  ⟨fun j => by rw [h 103 (by omega)]; exact hM j, nv_Emv (fun j _ => by rw [h 102 (by omega)]) (fun c x => h c (by omega)) hE⟩
theorem nv_Chigh (hVa : ny_V a) (hV : nv_V b k T tb n s hf) (h : ∀ c, c < 102 → I' c = I c) (hC : ny_Cl I a) (hD : nv_D I b k T tb n r s hf tr) : ny_Cl I' a ∧ nv_D I' b k T tb n r s hf tr :=
  ⟨nz_Cl_k hVa (h 1 (by omega)) (fun q j hr => by rw [h q (by unfold nz_rq at hr; omega)]) hC, nv_Dmv hV (by rw [h 5 (by omega)]) (by rw [h 5 (by omega)]) (by rw [h 54 (by omega)]) (fun c x => h c (by omega)) hD⟩
theorem nv_cf {a' : ny_a} (hV : nv_V b k T tb n s hf) (h : nz_cf I' I a') (hD : nv_D I b k T tb n r s hf tr) : nv_D I' b k T tb n r s hf tr ∧ I' 0 = I 0 :=
  ⟨nv_Dmv hV (by rw [h.2 5 (by omega)]) (by rw [h.2 5 (by omega)]) (by rw [h.2 54 (by omega)]) (fun c x => h.2 c (by omega)) hD, h.2 0 (by omega)⟩
theorem nv_cp {a' : ny_a} (hV : nv_V b k T tb n s hf) (h : nz_cp I' I a') (hD : nv_D I b k T tb n r s hf tr) : nv_D I' b k T tb n r s hf tr ∧ I' 0 = I 0 :=
  ⟨nv_Dmv hV (by rw [h.2 5 (by omega)]) (by rw [h.2 5 (by omega)]) (by rw [h.2 54 (by omega)]) (fun c x => h.2 c (by omega)) hD, h.2 0 (by omega)⟩
theorem nv_fr (hVa : ny_V a) (hV : nv_V b k T tb n s hf) (h : nz_fr 28 I' I) (hC : ny_Cl I a) (hD : nv_D I b k T tb n r s hf tr) : ny_Cl I' a ∧ nv_D I' b k T tb n r s hf tr ∧ I' 0 = I 0 := by
  have e : ∀ q, q ≠ 22 → q ≠ 28 → q ≠ 29 → I' q = I q := fun q x y z => h.1 q x y z
  obtain ⟨h1, h2, h3, h4⟩ := hC
  refine ⟨⟨nz_Ba_mv (c := 28) (Or.inr (Or.inl rfl)) h (fun _ _ _ _ => rfl) hVa h1, ?_, ?_, ?_⟩, nv_Dmv hV (by rw [e 5 (by omega) (by omega) (by omega)]) (by rw [e 5 (by omega) (by omega) (by omega)]) (by rw [e 54 (by omega) (by omega) (by omega)]) (fun c x => e c (by omega) (by omega) (by omega)) hD, e 0 (by omega) (by omega) (by omega)⟩
  · unfold ny_Mo; rw [e 7 (by omega) (by omega) (by omega), e (7 + 1) (by omega) (by omega) (by omega)]; exact h2
  · rw [e 6 (by omega) (by omega) (by omega)]; exact h3
  · unfold ny_Re; rw [e 23 (by omega) (by omega) (by omega), e 24 (by omega) (by omega) (by omega), e 25 (by omega) (by omega) (by omega), e 26 (by omega) (by omega) (by omega), e 27 (by omega) (by omega) (by omega)]; exact h4
/-- a step of the model -/
theorem nv_mstep {a' : ny_a} (hVa : ny_V a') (hV : nv_V b k T tb n s hf) (hC : ny_Cl I a') (hD : nv_D I b k T tb n r s hf tr) (hM : ny_Md I' a') (hE : nv_E I' b k T tb n r s hf tr) (h : ∀ c, c < 102 → I' c = I c) : nv I' := by
  obtain ⟨g1, g2⟩ := nv_Chigh hVa hV h hC hD
  exact ⟨a', b, k, T, tb, n, r, s, hf, tr, hVa, hV, g1, g2, hM, hE⟩
end NV
