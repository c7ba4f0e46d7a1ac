/-! the class: wills, a bell goes by in a moment -/
section NZU
variable {d Ln : Nat} {I : ny_I} {Q : Int32 → ny_I → Prop} {Q0 : ny_I → Prop} {a : ny_a} {c : Nat}
theorem nz_fs_up {I : ny_I} {j : Nat} (hj : j < 5) (x : Int32) : nz_fs (ny_up I 22 j x) I := by
  refine ⟨fun q hq => ny_upne _ hq _ _, fun i hi => ?_⟩
  rw [ny_upeq]
  unfold upd
  rw [if_neg (by omega)]
theorem q_Ba_will {k : Nat} (hc : ny_mc c) (hB : ny_Ba I a) (hM : ny_Mo I c a) (hV : ny_V a) (hk : k < a 0) (h : ∀ I', nz_fs I' I → Q (nI (ny_wil a k)) I') : ny_C1 (d + 2) m_Ba_will [.ref 6, .ref c, .int (nI k)] Ln I Q := by
  have V1 := hV.1; have V2 := hV.2.1; have V3 := hV.2.2.1; have V4 := hV.2.2.2.1; have V5 := hV.2.2.2.2.1; obtain ⟨v0, v1, v2, v3, v5, v6, v7⟩ := V1
  obtain ⟨b1, b2, b3⟩ := hB.2.1 k hk
  have n22 : c ≠ 22 ∧ c + 1 ≠ 22 := by unfold ny_mc at hc; omega
  refine s_Ba_will_0 hc ?_
  simp (disch := omega) only [ny_lit, nI_add, ny_mul, nI_clamp, ny_le, ny_lt, ny_eq, ny_div, ny_rem, ny_rem2, ny_inN, true_and, ny_upne, hM.1, hM.2.1 k hk, b2]
  have hF1 : nz_fs (ny_up (ny_up (ny_up I 22 0 (nI (a 1))) 22 1 (nI (a (9 + 5 * k)))) 22 2 (nI (a (10 + 5 * k)))) I :=
    nz_Fs_t (nz_fs_up (by decide) _) (nz_Fs_t (nz_fs_up (by decide) _) (nz_fs_up (by decide) _))
  refine q_Ba_guestsOf (a := a) (nz_Ba_Fs hF1 hV hB) hV (by omega) ?_
  simp (disch := omega) only [ny_lit, nI_add, ny_mul, nI_clamp, ny_le, ny_lt, ny_eq, ny_div, ny_rem, ny_rem2, ny_inN, true_and, ny_upne, b1]
  have hF2 : nz_fs (ny_up (ny_up (ny_up (ny_up (ny_up I 22 0 (nI (a 1))) 22 1 (nI (a (9 + 5 * k)))) 22 2 (nI (a (10 + 5 * k)))) 22 3 (nI (nz_W a (a 1) % 4))) 22 4 (nI k)) I :=
    nz_Fs_t (nz_fs_up (by decide) _) (nz_Fs_t (nz_fs_up (by decide) _) hF1)
  refine q_Ru_tells (nz_Ba_Fs hF2 hV hB) hV ?_ hk (h _ hF2)
  refine ⟨?_, ?_, ?_, ?_, ?_⟩ <;> simp [ny_upeq, upd]
theorem q_Ba_mayBe {k : Nat} (hc : ny_mc c) (hB : ny_Ba I a) (hM : ny_Mo I c a) (hV : ny_V a) (hk : k < a 0) (h : ∀ I', nz_fs I' I → Q (if ny_may a k then nI 1 else nI 0) I') : ny_C1 (d + 3) m_Ba_mayBeRelieved [.ref 6, .ref c, .int (nI k)] Ln I Q := by
  have V1 := hV.1; have V2 := hV.2.1; have V3 := hV.2.2.1; have V4 := hV.2.2.2.1; have V5 := hV.2.2.2.2.1; obtain ⟨v0, v1, v2, v3, v5, v6, v7⟩ := V1
  have hp := nz_pay_le (k := k) hV (by omega)
  have hw := nz_wil_le (k := k) hV
  refine s_Ba_mayBeRelieved_0 hc (q_Ba_pays hc hB hM hV hk ?_)
  simp (disch := omega) only [ny_lit, nI_add, ny_mul, nI_clamp, ny_le, ny_lt, ny_eq, ny_div, ny_rem, ny_rem2, ny_inN]
  refine ⟨fun q => ?_, fun q => q_Ba_will hc hB hM hV hk fun I' hF => ?_⟩
  · have := h I (nz_Fs_r I)
    rw [if_neg (by simp [ny_may]; omega)] at this; exact this
  · simp (disch := omega) only [ny_lit, nI_add, ny_mul, nI_clamp, ny_le, ny_lt, ny_eq, ny_div, ny_rem, ny_rem2, ny_inN]
    have := h I' hF
    refine ⟨fun c2 => ?_, fun c2 => ?_⟩
    · rw [if_neg (by simp [ny_may]; omega)] at this; exact this
    · rw [if_pos (by simp [ny_may]; omega)] at this; exact this
theorem q_Ba_restActL (hc : ny_mc c) (hV : ny_V a) : ∀ n o (I : ny_I), ny_Ba I a → ny_Mo I c a → o + n = a 0 → (∀ I', nz_fs I' I → Q (nI (ny_rsf a o n)) I') → ny_g (d + 4) m_Ba_restAct 2 [(0, .ref 6), (1, .ref c), (2, .int (nI o))] [] Ln I (ny_r1 Ln Q) := by
  have V1 := hV.1; have V2 := hV.2.1; have V3 := hV.2.2.1; have V4 := hV.2.2.2.1; have V5 := hV.2.2.2.2.1; obtain ⟨v0, v1, v2, v3, v5, v6, v7⟩ := V1
  intro n
  induction n with
  | zero =>
    intro o I hB hM ho h
    refine s_Ba_restAct_2 hc ?_
    rw [hB.1.1]
    simp (disch := omega) only [ny_lit, nI_add, ny_mul, nI_clamp, ny_le, ny_lt, ny_eq, ny_div, ny_rem, ny_rem2, ny_inN]
    exact ⟨fun _ => h I (nz_Fs_r I), fun q => absurd q (by omega)⟩
  | succ n ih =>
    intro o I hB hM ho h
    refine s_Ba_restAct_2 hc ?_
    rw [hB.1.1]
    simp (disch := omega) only [ny_lit, nI_add, ny_mul, nI_clamp, ny_le, ny_lt, ny_eq, ny_div, ny_rem, ny_rem2, ny_inN]
    refine ⟨fun q => absurd q (by omega), fun _ => q_Ba_mayBe hc hB hM hV (by omega) fun I' hF => ?_⟩
    by_cases q : ny_may a o = true
    · rw [if_pos q]
      have := h I' hF
      rw [ny_rsf, if_pos q] at this
      exact ⟨fun q => absurd q (by decide), fun _ => this⟩
    · rw [if_neg q]
      refine ⟨fun _ => ih (o + 1) I' (nz_Ba_Fs hF hV hB) (nz_Mo_Fs hc hF hM) (by omega) fun I2 hF2 => ?_, fun q => absurd rfl q⟩
      have := h I2 (nz_Fs_t hF2 hF)
      rw [ny_rsf, if_neg q] at this
      exact this
theorem q_Ba_restAct (hc : ny_mc c) (hB : ny_Ba I a) (hM : ny_Mo I c a) (hV : ny_V a) (h : ∀ I', nz_fs I' I → Q (nI (ny_rst a)) I') : ny_C1 (d + 4) m_Ba_restAct [.ref 6, .ref c] Ln I Q :=
  s_Ba_restAct_0 hc (q_Ba_restActL hc hV (a 0) 0 I hB hM (by omega) h)
/-- the moment behind the weary before the m-th -/
theorem nz_Mo_w {I : ny_I} {aw o v : Nat} (hc : ny_mc c) (hM : ny_Mo I c (ny_wrp a aw o)) (ho : o < 6) (hv : v = if o ≠ aw ∧ a (12 + 5 * o) = 0 then min 99 (a (9 + 5 * o) + ny_wry a o) else a (9 + 5 * o)) : ny_Mo (ny_up I (c + 1) o (nI v)) c (ny_wrp a aw (o + 1)) := by
  obtain ⟨h1, h2, m, hm, h3, h4⟩ := hM
  have nc : c ≠ c + 1 := by omega
  refine ⟨?_, fun k hk => ?_, m, hm, ?_, fun k hk => ?_⟩
  · rw [ny_upne _ nc, h1, nz_wrp_o (by omega), nz_wrp_o (by omega)]
  · rw [nz_wrp_o (by omega)] at hk
    rw [ny_upeq, ← nz_wrp_s ho hv]
    unfold upd ny_au
    by_cases e : k = o
    · subst e; rw [if_pos rfl, if_pos rfl]
    · rw [if_neg e, if_neg (by omega)]
      exact h2 k (by rw [nz_wrp_o (by omega)]; exact hk)
  · rw [ny_upne _ nc]; exact h3
  · rw [h4 k hk, nz_wrp_o (by omega), nz_wrp_o (by omega), nz_wrp_o (by omega), nz_wrp_o (by omega)]
/-- who is away, as the class tells it -/
def nz_sk (aw : Nat) : Int32 := if aw < 6 then nI aw else -3
theorem nz_sk_eq {o aw : Nat} (ho : o < 6) : nI o = nz_sk aw ↔ o = aw := by
  unfold nz_sk
  by_cases h : aw < 6
  · rw [if_pos h]; exact ny_eq (by omega) (by omega)
  · rw [if_neg h]
    constructor
    · intro e
      have := congrArg Int32.toInt e
      rw [nI_toInt (by omega)] at this
      rw [show (-3 : Int32).toInt = -3 by decide] at this
      omega
    · intro e; omega
theorem q_Ba_goBy90 {aw : Nat} (hc : ny_mc c) (hV : ny_V a) : ∀ (n o w : Nat) (I : ny_I), o + n = a 0 → ny_Ba I a → ny_Mo I c (ny_wrp a aw o) → (∀ I' w2, w2 = w + ny_sms a aw o n → nz_fr c I' I → ny_Mo I' c (ny_fin a aw w2) → Q (nI w2) I') →
    ny_g (d + 3) m_Ba_goBy 90 [(0, .ref 6), (1, .ref c), (4, .int (nz_sk aw)), (5, .int (nI w)), (6, .int (nI o))] [] Ln I (ny_r1 Ln Q) := by
  have V1 := hV.1; have V2 := hV.2.1; have V3 := hV.2.2.1; have V4 := hV.2.2.2.1; have V5 := hV.2.2.2.2.1; obtain ⟨v0, v1, v2, v3, v5, v6, v7⟩ := V1
  have n22 : c ≠ 22 ∧ c + 1 ≠ 22 ∧ c ≠ 6 ∧ c + 1 ≠ 6 := by unfold ny_mc at hc; omega
  intro n
  induction n with
  | zero =>
    intro o w I ho hB hM h
    refine s_Ba_goBy_90 hc ?_
    rw [hB.1.1]
    simp (disch := omega) only [ny_lit, nI_add, ny_mul, nI_clamp, ny_le, ny_lt, ny_eq, ny_div, ny_rem, ny_rem2, ny_inN]
    refine ⟨fun _ => ?_, fun q => absurd q (by omega)⟩
    rw [hM.1, nz_wrp_o (by omega), nI_add]
    refine h _ w rfl ⟨fun q h1 h2 h3 => ny_upne _ h2 _ _, fun j _ => by rw [ny_upne _ (Ne.symm n22.1)]⟩ ?_
    obtain ⟨h1, h2, m, hm, h3, h4⟩ := hM
    have e : o = a 0 := by omega
    subst e
    refine ⟨?_, fun k hk => ?_, m, hm, ?_, fun k hk => ?_⟩
    · rw [ny_upeq]; rfl
    · rw [ny_upne _ (by omega)]
      have hk : k < a 0 := by
        unfold ny_fin at hk
        rw [if_neg (by decide), if_neg (by decide), nz_wrp_o (by omega)] at hk
        exact hk
      unfold ny_fin
      rw [if_neg (by omega), if_neg (by omega)]
      exact h2 k (by rw [nz_wrp_o (by omega)]; exact hk)
    · rw [ny_upeq]
      unfold upd
      rw [if_neg (by decide)]
      exact h3
    · rw [h4 k hk]
      unfold ny_fin
      rw [if_neg (by omega), if_neg (by omega), if_neg (by omega), if_neg (by omega)]
  | succ n ih =>
    intro o w I ho hB hM h
    have ho6 : o < 6 := by omega
    have hVw := nz_wrp_V hV aw o
    have hBw : ny_Ba I (ny_wrp a aw o) := nz_Ba_mv hc ⟨fun _ _ _ _ => rfl, fun _ _ => rfl⟩ (nz_wrp_Sm a aw o) hV hB
    have e0 : ny_wrp a aw o 0 = a 0 := nz_wrp_o (by omega)
    have et : ny_wrp a aw o (9 + 5 * o) = a (9 + 5 * o) := by rw [nz_wrp_t ho6, if_neg (by omega)]
    have er : ny_wrp a aw o (12 + 5 * o) = a (12 + 5 * o) := nz_wrp_o (by omega)
    have U := V2 o ho6
    have hwr := nz_wry_le (k := o) hV
    have hsl := nz_shn_le (k := o) hV ho6
    have ewr : ny_wry (ny_wrp a aw o) o = ny_wry a o := nz_wry_c (nz_wrp_Sm a aw o) (nz_wrp_o (by omega)) o ho6 U.2.2.2.1
    have esh : ny_shn (ny_wrp a aw o) o = ny_shn a o := by
      unfold ny_shn ny_upb nz_W
      have e1 : ny_wrp a aw o 1 = a 1 := nz_wrp_o (by omega)
      rw [er, et, e1, nz_wrp_o (by omega), nz_wrp_o (by omega), nz_wrp_o (by omega)]
    -- nothing is done at o
    have skip : (o = aw ∨ ¬ a (12 + 5 * o) = 0) → (if o = aw then 0 else ny_shn a o) = 0 → ny_g (d + 3) m_Ba_goBy 90 [(0, .ref 6), (1, .ref c), (4, .int (nz_sk aw)), (5, .int (nI w)), (6, .int (nI (o + 1)))] [] Ln I (ny_r1 Ln Q) := by
      intro hq hz
      have hM2 : ny_Mo I c (ny_wrp a aw (o + 1)) := by
        have e : ny_au (ny_wrp a aw o) (9 + 5 * o) (a (9 + 5 * o)) = ny_wrp a aw o := by
          funext j
          unfold ny_au
          split
          · next e => rw [e, et]
          · rfl
        rw [← nz_wrp_s (v := a (9 + 5 * o)) ho6 (by rw [if_neg (by omega)]), e]
        exact hM
      refine ih (o + 1) w I (by omega) hB hM2 fun I' w2 e => h I' w2 ?_
      rw [ny_sms, hz, Nat.zero_add]; exact e
    refine s_Ba_goBy_90 hc ?_
    rw [hB.1.1]
    simp (disch := omega) only [ny_lit, nI_add, ny_mul, nI_clamp, ny_le, ny_lt, ny_eq, ny_div, ny_rem, ny_rem2, ny_inN, nz_sk_eq, true_and]
    refine ⟨fun q => absurd q (by omega), fun _ => ⟨fun q => skip (Or.inl q) (if_pos q), fun q => q_Mo_isRelieved hc hM ho6 ?_⟩⟩
    rw [e0, er]
    by_cases hr : a (12 + 5 * o) = 0
    · rw [if_neg (by omega)]
      refine ⟨fun q => absurd rfl q, fun _ => q_Ba_shows (d := d) hc hBw hM hVw (by rw [e0]; omega) ?_⟩
      simp (disch := omega) only [ny_lit, nI_add, ny_mul, nI_clamp, ny_le, ny_lt, ny_eq, ny_div, ny_rem, ny_rem2, ny_inN, true_and]
      refine q_Ba_wearies (d := d) hc hBw hM hVw (by rw [e0]; omega) ?_
      rw [esh, ewr, hM.2.1 o (by rw [e0]; omega), et]
      simp (disch := omega) only [ny_lit, nI_add, ny_mul, nI_clamp, ny_le, ny_lt, ny_eq, ny_div, ny_rem, ny_rem2, ny_inN, true_and]
      have e99 : (if a (9 + 5 * o) + ny_wry a o < 99 then nI (a (9 + 5 * o) + ny_wry a o) else nI 99) = nI (min 99 (a (9 + 5 * o) + ny_wry a o)) := by
        split
        · exact congrArg nI (by omega)
        · exact congrArg nI (by omega)
      rw [e99]
      have hU : nz_fr c (ny_up I (c + 1) o (nI (min 99 (a (9 + 5 * o) + ny_wry a o)))) I := ⟨fun q _ _ h3 => ny_upne _ h3 _ _, fun j _ => by rw [ny_upne _ (Ne.symm n22.2.1)]⟩
      refine ih (o + 1) (w + ny_shn a o) _ (by omega) (nz_Ba_mv hc hU (fun _ _ _ _ => rfl) hV hB) (nz_Mo_w hc hM ho6 (by rw [if_pos ⟨q, hr⟩])) fun I' w2 e hF hM' => h I' w2 ?_ (nz_Fr_t hF hU) hM'
      rw [ny_sms, if_neg q, ← Nat.add_assoc]
      exact e
    · rw [if_pos ⟨by omega, by omega⟩]
      refine ⟨fun _ => skip (Or.inr hr) ?_, fun q => absurd q (by decide)⟩
      rw [if_neg q, ny_shn, if_neg (by simp [ny_upb, hr])]
theorem nz_Mo_9 {I : ny_I} {k v : Nat} (hc : ny_mc c) (hM : ny_Mo I c a) (hk : k < 6) (hV : ny_V a) : ny_Mo (ny_up I (c + 1) k (nI v)) c (ny_au a (9 + 5 * k) v) := by
  obtain ⟨h1, h2, m, hm, h3, h4⟩ := hM
  have nc : c ≠ c + 1 := by omega
  refine ⟨?_, fun q hq => ?_, m, hm, ?_, fun q hq => ?_⟩
  · rw [ny_upne _ nc, nz_au_ne (by omega)]; exact h1
  · rw [nz_au_ne (by omega)] at hq
    rw [ny_upeq]
    unfold upd
    by_cases e : q = k
    · subst e; rw [if_pos rfl, nz_au_eq]
    · rw [if_neg e, nz_au_ne (by omega)]; exact h2 q hq
  · rw [ny_upne _ nc]; exact h3
  · rw [nz_au_ne (by omega), nz_au_ne (by omega)]; exact h4 q hq
theorem nz_Mo_12 {I : ny_I} {k : Nat} (hc : ny_mc c) (hM : ny_Mo I c a) (hV : ny_V a) (hk : k < a 0) (b : Bool) : ny_Mo (ny_up I c 1 (if b then (I c 1 ||| ((1 : Int32) <<< (nI k &&& 31))) else (I c 1 &&& (((1 : Int32) <<< (nI k &&& 31)) ^^^ (-1))))) c (ny_au a (12 + 5 * k) (if b then 1 else 0)) := by
  obtain ⟨h1, h2, m, hm, h3, h4⟩ := hM
  have v := hV.1
  have nc : c + 1 ≠ c := by omega
  have key : ∃ m', m' < 64 ∧ (if b then (I c 1 ||| ((1 : Int32) <<< (nI k &&& 31))) else (I c 1 &&& (((1 : Int32) <<< (nI k &&& 31)) ^^^ (-1)))) = nI m' ∧ ∀ q, q < 6 → m'.testBit q = if q = k then b else m.testBit q := by
    cases b with
    | true =>
      obtain ⟨g1, g2⟩ := nz_bon_t m hm k (by omega)
      refine ⟨m ||| 2 ^ k, g1, ?_, fun q hq => ?_⟩
      · rw [h3]; exact nz_bon m hm k (by omega)
      · rw [g2 q hq]; by_cases e : q = k <;> simp [e]
    | false =>
      obtain ⟨g1, g2⟩ := nz_boff_t m hm k (by omega)
      refine ⟨m &&& (63 - 2 ^ k), g1, ?_, fun q hq => ?_⟩
      · rw [h3]; exact nz_boff m hm k (by omega)
      · rw [g2 q hq]; by_cases e : q = k <;> simp [e]
  obtain ⟨m', k1, k2, k3⟩ := key
  refine ⟨?_, fun q hq => ?_, m', k1, ?_, fun q hq => ?_⟩
  · rw [ny_upeq, nz_au_ne (by omega)]
    unfold upd
    rw [if_neg (by decide)]; exact h1
  · rw [nz_au_ne (by omega)] at hq
    rw [ny_upne _ nc, nz_au_ne (by omega)]; exact h2 q hq
  · rw [ny_upeq]
    unfold upd
    rw [if_pos rfl]; exact k2
  · rw [k3 q hq, nz_au_ne (by omega)]
    by_cases e : q = k
    · subst e
      rw [if_pos rfl, nz_au_eq]
      cases b <;> simp [hk]
    · rw [if_neg e, nz_au_ne (by omega)]; exact h4 q hq
theorem q_Mo_put {k : Nat} {b : Bool} (hc : ny_mc c) (hM : ny_Mo I c a) (hV : ny_V a) (hk : k < a 0) (h : ∀ I', nz_fr c I' I → ny_Mo I' c (ny_au a (12 + 5 * k) (if b then 1 else 0)) → Q0 I') : ny_C0 d m_Mo_putRelieved [.ref c, .int (nI k), .int (if b then 1 else 0)] Ln I Q0 := by
  have n22 : c ≠ 22 := by unfold ny_mc at hc; omega
  have key := nz_Mo_12 hc hM hV hk b
  refine s_Mo_putRelieved_0 hc ⟨fun q => ?_, fun q => ?_⟩
  · cases b with
    | true => exact absurd q (by decide)
    | false => exact h _ ⟨fun q _ h2 _ => ny_upne _ h2 _ _, fun j _ => by rw [ny_upne _ (Ne.symm n22)]⟩ key
  · cases b with
    | false => exact absurd rfl q
    | true => exact h _ ⟨fun q _ h2 _ => ny_upne _ h2 _ _, fun j _ => by rw [ny_upne _ (Ne.symm n22)]⟩ key
end NZU
