/-! the text at the start -/
section UTX
variable {b : Addr} {s : State} {A : Nat → Prop}
def u_tm : Term := .string "NymphRota$Tape" (94 : Nat)
theorem u_str_in : ∀ j, j < 105 → (Cond.eq (.elem (.field u_tm "java/lang/String" "value" "[B") (.int (Int32.ofNat j))) (.int (ny_bl.getD j 0))) ∈ flatC (Jvm.Cond.and given_1 narrow_1) := by decide +kernel
theorem u_text (hts : ∀ w ∈ lw_tbl, w.before #[Value.ref b] s = true) (hgv : (Jvm.Cond.and given_1 narrow_1).before #[Value.ref b] s = true) (hA : ∀ a : Nat, a < s.heap.size → ¬ A a) : ∃ w0 v0 : Nat, vk_R "NymphRota$Tape" 94 ny_txt w0 s ∧ vk_S 1 [105] [ny_bl] (fun _ => w0) (fun _ => v0) A s s.heap := by
  have hs := flat_of_before _ hgv
  obtain ⟨adK, adV, h1, h2⟩ := vk_Sof (args := #[Value.ref b]) (s := s) (N := 1) (tm := fun _ => u_tm) (len := [105]) (byt := [ny_bl]) (A := A) (fun i hi => by rw [show i = 0 by omega]; decide) (fun i hi => hs _ (by show _ ∈ _; decide +kernel)) (fun i hi => hs _ (by decide +kernel)) (fun i hi => hs _ (by decide +kernel)) (fun i hi => by rw [show i = 0 by omega]; exact hs _ (by decide +kernel)) (fun i hi j hj => by
    rw [show i = 0 by omega] at hj ⊢
    exact hs _ (u_str_in j hj)) (fun i j hi hj q => absurd (by omega) q) hA
  have e := h2 0 (by decide)
  refine ⟨adK 0, adV 0, vk_R.of (hts (.stringRef "NymphRota$Tape" 94 ny_txt) (by decide +kernel)) e, ?_⟩
  obtain ⟨g1, g2⟩ := h1
  refine ⟨fun i hi => ?_, fun i j hi hj _ => by omega⟩
  have := g1 i hi
  rw [show i = 0 by omega] at this ⊢
  exact this
end UTX
