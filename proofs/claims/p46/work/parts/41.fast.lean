section
variable {R A D : Nat} {kinds strengths moved needs forbids now : Nat → Int32} {st : Nat → Int64}
theorem fast_b {s : Int64} {i : Nat} (hi : i < 6) : (bl s (24 + i) = false ∧ bl s (30 + i) = false ∧ M_X5_isFast s (nI i) = 1) ∨ M_X5_isFast s (nI i) = 0 := by
  rw [st_isFast s hi]
  cases bl s (24 + i) <;> cases bl s (30 + i) <;> simp
end
