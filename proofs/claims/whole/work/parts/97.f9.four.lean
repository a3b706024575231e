/-! ===== one whom nobody told of ===== -/
theorem sh_all : ∀ a, a < 64 → ∀ n, n < 7 → (jshr (nI a) (nI n) = 0 ↔ a < 2 ^ n) := by decide +kernel
theorem m1_lt : ∀ n, n < 7 → (-1 : Int32) < nI n := by decide
/-- both see it alike -/
theorem four {n tm m : Nat} {w pu h o : Nat → Nat} {x : KT} {told : FN} {far : Int32} (T : TwO n w pu h o tm m x told far) (hn : n ≤ 6) : (jshr x.2.2.2.2.2.2.2.2.2 x.1 = 0 ↔ tm < 2 ^ n) ∧ (far < nI n ↔ tm < 2 ^ n) := by
  obtain ⟨⟨c1, _⟩, _, t3, t4, t5, t6, _⟩ := T
  have t64 : tm < 64 := (t6 6).2 t4
  refine ⟨?_, ?_⟩
  · rw [t3, c1]
    exact sh_all tm t64 n (by omega)
  · rw [t6]
    rcases t5 with ⟨z1, z2⟩ | ⟨t, z1, z2⟩
    · rw [z2]
      exact ⟨fun _ => by omega, fun _ => m1_lt n (by omega)⟩
    · rw [z2]
      refine ⟨fun y => ?_, fun y => nI_lt (by omega) (by omega)⟩
      exact Nat.lt_of_not_le (fun q => nI_nlt (a := t) (b := n) q (by omega) y) |> fun q => by omega
