/-! the log -/
section
variable {R A D : Nat} {kinds strengths moved needs forbids now : Nat → Int32} {st : Nat → Int64}
theorem now_C (hD : D ≤ 40) : M_X0_now st (nI D) = some (st D) := by
  unfold M_X0_now
  rw [if_neg (nI_pos (by omega)), if_neg (rN 40 (by omega)), if_pos (pu_inb (by omega) (by omega)), nI_clamp (by omega)]
theorem done_F {s' : Int64} {x : Int32} : M_X6_done st (nI 40) s' x = some (-2, st, nI 40) := by
  unfold M_X6_done M_X0_isFull
  rw [nI_1, if_neg (aN 40 (a := 41) (by omega) (by omega)), if_neg (by decide)]
theorem done_C (hD : D < 40) {s' : Int64} {x : Int32} : M_X6_done st (nI D) s' x = some (x, vp_updL st (D + 1) s', nI (D + 1)) := by
  unfold M_X6_done M_X0_isFull M_X0_add
  rw [nI_1, if_pos (aL 40 (by omega)), if_pos rfl, if_neg (nI_pos (by omega)), if_neg (gN 40 hD), if_pos (pu_inb (by omega) (by omega)), nI_clamp (by omega)]
  rfl
end
