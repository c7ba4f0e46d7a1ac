/-! numbers: what the walks' expressions are over whole numbers that are small -/
theorem ny_lit (n : Nat) : (OfNat.ofNat n : Int32) = nI (OfNat.ofNat n) := rfl
theorem ny_m1 : (-1 : Int32) = nI 4294967295 := by decide +kernel
theorem ny_inN {n N : Nat} (h : n < N) (hN : N < 2 ^ 31) : ny_in (nI n) N = true := by
  unfold ny_in
  rw [nI_clamp (by omega)]
  simp [nI_pos (n := n) (by omega), h]
theorem ny_mul (a b : Nat) : nI a * nI b = nI (a * b) := pk_mul a b
/-- the greater of 0 and a difference -/
theorem ny_max0 {a b : Nat} (ha : a < 2 ^ 30) (hb : b < 2 ^ 30) : (if (0 : Int32) < nI a - nI b then nI a - nI b else 0) = nI (a - b) := by
  rcases Nat.lt_or_ge a b with h | h
  · rw [if_neg, show a - b = 0 by omega]; · rfl
    intro q
    have h1 := pk_sneg hb h
    rw [Int32.lt_iff_toInt_lt] at h1 q
    omega
  · rw [pk_sub h]
    by_cases h0 : a - b = 0
    · rw [h0]; rfl
    · rw [if_pos]
      rw [show (0 : Int32) = nI 0 from rfl]
      exact (nI_ltI (by omega) (by omega)).mpr (by omega)
theorem ny_max0' {a b : Nat} (ha : a < 2 ^ 30) (hb : b < 2 ^ 30) : (if nI a - nI b < (0 : Int32) then 0 else nI a - nI b) = nI (a - b) := by
  rcases Nat.lt_or_ge a b with h | h
  · rw [if_pos (pk_sneg hb h), show a - b = 0 by omega]; rfl
  · rw [pk_sub h, if_neg (nI_pos (by omega))]
theorem ny_le {a b : Nat} (ha : a < 2 ^ 31) (hb : b < 2 ^ 31) : nI a ≤ nI b ↔ a ≤ b := nI_leI ha hb
theorem ny_lt {a b : Nat} (ha : a < 2 ^ 31) (hb : b < 2 ^ 31) : nI a < nI b ↔ a < b := nI_ltI ha hb
theorem ny_eq {a b : Nat} (ha : a < 2 ^ 31) (hb : b < 2 ^ 31) : nI a = nI b ↔ a = b := nI_eq ha hb
theorem ny_br {c P A B : Prop} (e : c ↔ P) (hA : P → A) (hB : ¬ P → B) : (c → A) ∧ (¬ c → B) := ⟨fun h => hA (e.mp h), fun h => hB (fun q => h (e.mpr q))⟩
/-- the other way round -/
theorem ny_brn {c P A B : Prop} (e : c ↔ P) (hA : P → A) (hB : ¬ P → B) : (¬ c → B) ∧ (c → A) := ⟨fun h => hB (fun q => h (e.mpr q)), fun h => hA (e.mp h)⟩
theorem ny_div {a d : Nat} (ha : a < 2 ^ 31) (h0 : 0 < d) (hd : d < 2 ^ 31) : nI a / nI d = nI (a / d) := pk_div ha h0 hd
theorem ny_rem {a d : Nat} (ha : a < 2 ^ 31) (h0 : 0 < d) (hd : d < 2 ^ 31) : nI a - nI a / nI d * nI d = nI (a % d) := pk_rem ha h0 hd
theorem ny_rem2 {a d : Nat} (ha : a < 2 ^ 31) (h0 : 0 < d) : nI a - nI (a / d * d) = nI (a % d) := by
  rw [pk_sub (Nat.div_mul_le_self a d)]
  congr 1
  have := Nat.div_add_mod a d
  rw [Nat.mul_comm] at this
  omega
theorem ny_min {a b : Nat} (ha : a < 2 ^ 31) (hb : b < 2 ^ 31) : (if nI a < nI b then nI a else nI b) = nI (min a b) := by
  rcases Nat.lt_or_ge a b with h | h
  · rw [if_pos ((ny_lt ha hb).mpr h), Nat.min_eq_left (by omega)]
  · rw [if_neg (fun q => absurd ((ny_lt ha hb).mp q) (by omega)), Nat.min_eq_right h]
theorem ny_upne (I : ny_I) {o c : Nat} (h : c ≠ o) (j : Nat) (x : Int32) : ny_up I o j x c = I c := if_neg h
theorem ny_upeq (I : ny_I) (o j : Nat) (x : Int32) : ny_up I o j x o = upd (I o) j x := if_pos rfl
/-! the basin, as whole numbers a: 0 how many, 1 bell, 2 end, 3 score, 4 z, 5 rules, 6 reports, 7 steps, 8 + 5 k the figures, 38 shade, 44 wet, 50 weather, 66 rules, 98 reports, 122 steps -/
abbrev ny_a : Type := Nat → Nat
def ny_au (a : ny_a) (i v : Nat) : ny_a := fun j => if j = i then v else a j
/-- the model's row holds a -/
def ny_Md (I : ny_I) (a : ny_a) : Prop := ∀ j, I 103 j = nI (a j)
/-- how many truths lie in the bits behind j steps from b on (at the most) -/
def ny_dp (a : ny_a) (b : Nat) : Nat → Nat
  | 0 => 1
  | j + 1 => if a (122 + 3 * (b + j)) < 3 then ny_dp a b j + 1 else if a (122 + 3 * (b + j)) = 3 then ny_dp a b j else ny_dp a b j - 1
/-- the numbers are as small as they should be -/
def ny_V (a : ny_a) : Prop := (a 0 ≤ 6 ∧ a 1 ≤ a 2 ∧ a 2 ≤ 16 ∧ 1 ≤ a 2 ∧ a 5 ≤ 8 ∧ a 6 ≤ 6 ∧ a 7 ≤ 150) ∧
  (∀ k, k < 6 → a (8 + 5 * k) ≤ 5 ∧ a (9 + 5 * k) ≤ 99 ∧ a (10 + 5 * k) ≤ 9 ∧ a (11 + 5 * k) ≤ 5 ∧ a (12 + 5 * k) ≤ 1) ∧ (∀ k, k < a 0 → 1 ≤ a (8 + 5 * k)) ∧
  (∀ f, f < 6 → a (38 + f) ≤ 9 ∧ a (44 + f) ≤ 9) ∧ (∀ b, b < 16 → a (50 + b) ≤ 15) ∧
  (∀ r, r < a 5 → a (66 + 4 * r) ≤ 5 ∧ a (67 + 4 * r) ≤ 2 ∧ a (68 + 4 * r) ≤ a (69 + 4 * r) ∧ a (69 + 4 * r) ≤ a 7 ∧ a (68 + 4 * r) = (if r = 0 then 0 else a (65 + 4 * r)) ∧ ∀ j, j ≤ a (69 + 4 * r) - a (68 + 4 * r) → ny_dp a (a (68 + 4 * r)) j ≤ 40) ∧
  (∀ r, r < a 6 → a (98 + 4 * r) ≤ 15 ∧ a (99 + 4 * r) ≤ 1 ∧ a (100 + 4 * r) ≤ 999 ∧ a (101 + 4 * r) ≤ 999) ∧
  (∀ i, i < a 7 → a (122 + 3 * i) ≤ 5 ∧ a (123 + 3 * i) ≤ 10004 ∧ a (124 + 3 * i) ≤ 10004)
def nz_W (a : ny_a) (b : Nat) : Nat := if b < 16 then a (50 + b) else 0
def ny_wear (kind bell w : Nat) : Nat :=
  if kind = 1 then 1 else if kind = 2 then 3 + 4 * (w / 4) + bell / 4 else if kind = 3 then 3 + 4 * (w / 4) + bell / 4 - 5 else if kind = 4 then 2 * (3 + 4 * (w / 4)) else if bell % 2 = 1 then 0 else 2 * (3 + 4 * (w / 4))
def ny_shw (kind grace number w : Nat) : Nat :=
  if kind = 1 then min 1 (w % 4) else if kind = 2 then w % 4 + grace / 3 else if kind = 3 then w % 4 + grace / 3 - 1 else if kind = 4 then 2 * (w % 4) else 2 * (w % 4) + number
def ny_upb (a : ny_a) (k : Nat) : Bool := decide (a (12 + 5 * k) = 0) && decide (a (9 + 5 * k) < 60)
def ny_wry (a : ny_a) (k : Nat) : Nat := ny_wear (a (8 + 5 * k)) (a 1) (nz_W a (a 1)) - a (38 + a (11 + 5 * k))
def ny_shn (a : ny_a) (k : Nat) : Nat := if ny_upb a k then ny_shw (a (8 + 5 * k)) (a (10 + 5 * k)) k (nz_W a (a 1)) else 0
def ny_pay (a : ny_a) (k : Nat) : Nat := if ny_upb a k then 10 + a (10 + 5 * k) - a (9 + 5 * k) / 8 else 0
def ny_val (a : ny_a) (v k : Nat) : Nat := if v = 10000 then a 1 else if v = 10001 then a (9 + 5 * k) else if v = 10002 then a (10 + 5 * k) else if v = 10003 then nz_W a (a 1) % 4 else if v = 10004 then k else v
def ny_cmp (so x y : Nat) : Bool := if so = 0 then decide (x < y) else if so = 1 then decide (x = y) else decide (y < x)
def ny_stv (a : ny_a) (k i t : Nat) : Nat :=
  if a (122 + 3 * i) < 3 then 2 * t + (if ny_cmp (a (122 + 3 * i)) (ny_val a (a (123 + 3 * i)) k) (ny_val a (a (124 + 3 * i)) k) then 1 else 0)
  else if a (122 + 3 * i) = 3 then t ^^^ 1 else if a (122 + 3 * i) = 4 then (if t % 2 = 1 then t / 2 else t / 2 - t / 2 % 2) else t / 2 ||| t % 2
def ny_hld (a : ny_a) (k : Nat) : Nat → Nat → Nat → Nat
  | _, 0, t => t
  | i, n + 1, t => ny_hld a k (i + 1) n (ny_stv a k i t)
def ny_hol (a : ny_a) (r k : Nat) : Bool := decide (ny_hld a k (a (68 + 4 * r)) (a (69 + 4 * r) - a (68 + 4 * r)) 1 % 2 = 1)
def ny_und (own kind : Nat) : Bool := decide (kind = 0 ∨ own = kind ∨ (kind = 2 ∧ own = 3) ∨ (kind = 4 ∧ own = 5))
def ny_wlf (a : ny_a) (k : Nat) : Nat → Nat → Nat
  | _, 0 => 0
  | r, n + 1 => if ny_und (a (8 + 5 * k)) (a (66 + 4 * r)) && ny_hol a r k then a (67 + 4 * r) else ny_wlf a k (r + 1) n
def ny_wil (a : ny_a) (k : Nat) : Nat := ny_wlf a k 0 (a 5)
def ny_may (a : ny_a) (k : Nat) : Bool := decide (0 < ny_pay a k) && decide (ny_wil a k = 0)
/-- what all show but one away, from o on -/
def ny_sms (a : ny_a) (aw : Nat) : Nat → Nat → Nat
  | _, 0 => 0
  | o, n + 1 => (if o = aw then 0 else ny_shn a o) + ny_sms a aw (o + 1) n
/-- the told one's act: what is worth, who is away (6: none), the numbers then -/
def ny_tld (a : ny_a) (act : Nat) : Nat × Nat × ny_a :=
  if act = 0 then (0, 6, a) else if ny_upb a (act - 1) = false then (0, 6, a) else
  if ny_wil a (act - 1) = 0 then (ny_pay a (act - 1), 6, if 0 < ny_pay a (act - 1) then ny_au a (12 + 5 * (act - 1)) 1 else a)
  else if ny_wil a (act - 1) = 2 then (0, act - 1, ny_au a (9 + 5 * (act - 1)) (a (9 + 5 * (act - 1)) - 25)) else (0, 6, a)
/-- all before the m-th weary -/
def ny_wrp (a : ny_a) (aw m : Nat) : ny_a := fun j => if 8 ≤ j ∧ j < 38 ∧ (j - 8) % 5 = 1 ∧ (j - 8) / 5 < m ∧ (j - 8) / 5 ≠ aw ∧ a (12 + 5 * ((j - 8) / 5)) = 0 then min 99 (a j + ny_wry a ((j - 8) / 5)) else a j
/-! what follows of the numbers' bounds -/
theorem ny_wear_le {kind bell w : Nat} (hb : bell ≤ 16) (hw : w ≤ 15) : ny_wear kind bell w ≤ 30 := by
  unfold ny_wear
  split
  · omega
  split
  · omega
  split
  · omega
  split
  · omega
  split <;> omega
theorem ny_shw_le {kind grace number w : Nat} (hg : grace ≤ 9) (hn : number ≤ 5) : ny_shw kind grace number w ≤ 11 := by
  unfold ny_shw
  have : w % 4 < 4 := Nat.mod_lt _ (by decide)
  split
  · omega
  split
  · omega
  split
  · omega
  split <;> omega
theorem nz_W_le {a : ny_a} (h : ny_V a) (b : Nat) : nz_W a b ≤ 15 := by
  unfold nz_W
  split
  · exact h.2.2.2.2.1 b (by assumption)
  · exact Nat.zero_le _
