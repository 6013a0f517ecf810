/-! shelves -/
theorem pu_num {N M : Nat} (hN : N < 2 ^ 31) (x : Int32) : (∃ r, r < N ∧ x = nI r ∧ M_X4_isNumber N M x = 1) ∨ ((x < 0 ∨ nI N ≤ x) ∧ M_X4_isNumber N M x = 0) := by
  unfold M_X4_isNumber
  rcases pu_ix x hN with ⟨k, h, rfl⟩ | h | h
  · exact .inl ⟨k, h, rfl, by rw [if_neg (nI_pos (by omega))]; exact if_neg (nI_ge h hN)⟩
  · exact .inr ⟨.inl h, if_pos h⟩
  · refine .inr ⟨.inr h, ?_⟩
    by_cases h0 : x < 0
    · exact if_pos h0
    · rw [if_neg h0]; exact if_pos h
section
variable {N M : Nat} {sizes : Nat → Int32} {places : Nat → Nat → Int32} {r : Nat}
theorem pu_isN (hr : r < N) (hN : N < 2 ^ 31) : M_X4_isNumber N M (nI r) = 1 := by
  unfold M_X4_isNumber
  rw [if_neg (nI_pos (by omega))]
  exact if_neg (nI_ge hr hN)
theorem pu_size (hr : r < N) (hN : N < 2 ^ 31) : M_X4_size N M sizes (nI r) = some (sizes r) := by
  unfold M_X4_size
  rw [pu_isN hr hN, if_neg (by decide), if_pos (pu_inb hr hN), nI_clamp (by omega)]
theorem pu_there0 (hr : r < N) (hN : N < 2 ^ 31) (h : sizes r = -1) : M_X4_isThere N M sizes (nI r) = some 0 := by
  unfold M_X4_isThere
  rw [pu_size hr hN, Option.bind_some, h, if_pos rfl]
theorem pu_there1 (hr : r < N) (hN : N < 2 ^ 31) {z : Nat} (hz : z < 2 ^ 31) (h : sizes r = nI z) : M_X4_isThere N M sizes (nI r) = some 1 := by
  unfold M_X4_isThere
  rw [pu_size hr hN, Option.bind_some, h, if_neg (pu_nI1 hz)]
theorem pu_place1 (hr : r < N) (hN : N < 2 ^ 31) {z i : Nat} (hz : z < 2 ^ 31) (h : sizes r = nI z) (hi : i < z) : M_X4_hasPlace N M sizes (nI r) (nI i) = some 1 := by
  unfold M_X4_hasPlace
  rw [if_neg (nI_pos (by omega)), pu_size hr hN, Option.bind_some, h, if_neg (pu_nle (by omega) (by omega) hi)]
theorem pu_place0 (hr : r < N) (hN : N < 2 ^ 31) {z : Nat} (h : sizes r = nI z) {x : Int32} (hx : x < 0 ∨ nI z ≤ x) : M_X4_hasPlace N M sizes (nI r) x = some 0 := by
  unfold M_X4_hasPlace
  by_cases h0 : x < 0
  · rw [if_pos h0]
  · rw [if_neg h0, pu_size hr hN, Option.bind_some, h, if_pos (hx.resolve_left h0)]
theorem pu_get (hr : r < N) (hN : N < 2 ^ 31) {z i : Nat} (hz : z ≤ M) (hM : M < 2 ^ 31) (h : sizes r = nI z) (hi : i < z) : M_X4_get N M sizes places (nI r) (nI i) = some (places r i) := by
  unfold M_X4_get
  rw [pu_place1 hr hN (by omega) h hi, Option.bind_some, if_neg (by decide), if_pos (pu_inb hr hN), if_pos (pu_inb (by omega) hM), nI_clamp (by omega), nI_clamp (by omega)]
theorem pu_set (hr : r < N) (hN : N < 2 ^ 31) {z i : Nat} (hz : z ≤ M) (hM : M < 2 ^ 31) (h : sizes r = nI z) (hi : i < z) (v : Int32) : M_X4_set N M sizes places (nI r) (nI i) v = some (upd2 places r (upd (places r) i v)) := by
  unfold M_X4_set
  rw [pu_place1 hr hN (by omega) h hi, Option.bind_some, if_neg (by decide), if_pos (pu_inb hr hN), if_pos (pu_inb (by omega) hM), nI_clamp (by omega), nI_clamp (by omega)]
theorem pu_make (hr : r < N) (hN : N < 2 ^ 31) {z : Nat} (hz : z ≤ M) (hM : M < 100000) {most blank : Int32} (hm : most = nI M) :
    ∃ q, M_X4_make N M most blank sizes places (nI r) (nI z) = some (upd sizes r (nI z), upd2 places r q) ∧ ∀ i, i < z → q i = blank := by
  subst hm
  unfold M_X4_make
  rw [pu_isN hr hN, if_neg (by decide), if_neg (nI_pos (by omega)), if_neg (pu_nlt (by omega) (by omega) hz), if_pos (pu_inb hr hN), nI_clamp (by omega)]
  exact pu_lp (fun n k (s : Nat → Nat → Int32) => ∃ q, M_X4_make_b29 N M (nI M) blank n (upd sizes r (nI z)) s (nI r) (nI z) (nI k) = some (upd sizes r (nI z), upd2 places r q) ∧ ∀ i, i < z → q i = blank)
    (fun k s => ∃ q, s = upd2 places r q ∧ ∀ i, i < k → q i = blank) z (by omega)
    (fun n s ⟨q, h1, h2⟩ => ⟨q, by rw [M_X4_make_b29, if_pos (pu_le (by omega) (by omega) (Nat.le_refl z)), h1], h2⟩)
    (fun n k s hk ⟨q, h1, h2⟩ ih => by
      rw [M_X4_make_b29, if_neg (nI_ge hk (by omega)), if_pos (pu_inb hr hN), if_pos (pu_inb (by omega) (by omega)), nI_clamp (by omega), nI_clamp (by omega), nI_1]
      refine ih _ ⟨upd q k blank, ?_, ?_⟩
      · rw [h1, pu_22, pu_2s]
      · intro i hi
        by_cases e : i = k
        · subst e; rw [pu_us]
        · rw [pu_un e]; exact h2 i (by omega))
    places ⟨places r, pu_2f.symm, fun i hi => absurd hi (by omega)⟩
end
