/-! all that stands at the start -/
theorem u_E {p : Program} {s : State} {m : MethodId} {meth : Method} {c : Code} {b L : Nat} {xs : Nat → Int32} (C0 : lw_At p s m meth c b L xs) : ∃ E : ny_E, ny_S E s ∧ ny_X E s s.heap ∧ ny_sz E = s.heap.size ∧ ny_xb E = b ∧ ny_Ln E = L ∧ ny_xs E = xs := by
  obtain ⟨hx, hb, hr, hml, hown, hts, hX, hbl, hlk, hgv⟩ := C0
  obtain ⟨D, hD⟩ := u_cls hts
  obtain ⟨f, hf⟩ := u_tys hts
  have hA : ∀ a : Nat, a < s.heap.size → ¬ (fun q : Nat => s.heap.size ≤ q) a := fun a h q => absurd q (Nat.not_le.mpr h)
  obtain ⟨t0, z1, z2⟩ := u_above (A := fun q : Nat => s.heap.size ≤ q) hts hgv hA
  obtain ⟨fm, z3⟩ := u_sio (A := fun q : Nat => s.heap.size ≤ q) hts hgv hA
  obtain ⟨w0, v0, z4, z5⟩ := u_text (A := fun q : Nat => s.heap.size ≤ q) hts hgv hA
  exact ⟨(D, f, (b, t0, w0, v0, fm), (L, xs), s.heap.size), ⟨⟨hD, hf⟩, u_nest hts⟩, ⟨hX, hbl, z2, z1, u_compact hts hgv hA, z3, z4, z5⟩, rfl, rfl, rfl, rfl⟩
