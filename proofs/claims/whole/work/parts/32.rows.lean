/-! shelves: rows and texts -/
def pu_S (N M : Nat) (sizes : Nat → Int32) (places : Nat → Nat → Int32) (rl rw : Nat → Int32) : Prop :=
  ∀ r, r < N → rl r = sizes r ∧ (sizes r = -1 ∨ ∃ z, z ≤ M ∧ sizes r = nI z ∧ ∀ i, i < z → places r i = rw (M * r + i))
theorem pu_num {N M : Nat} (hN : N < 2 ^ 31) (x : Int32) : (∃ r, r < N ∧ x = nI r ∧ M_X4_isNumber N M x = 1) ∨ ((x < 0 ∨ nI N ≤ x) ∧ M_X4_isNumber N M x = 0) := by
  unfold M_X4_isNumber
  rcases pu_ix x hN with ⟨k, h, rfl⟩ | h | h
  · exact .inl ⟨k, h, rfl, by rw [if_neg (nI_pos (by omega))]; exact if_neg (nI_ge h hN)⟩
  · exact .inr ⟨.inl h, if_pos h⟩
  · refine .inr ⟨.inr h, ?_⟩
    by_cases h0 : x < 0
    · exact if_pos h0
    · rw [if_neg h0]; exact if_pos h
theorem pu_numR (x : Int32) : (∃ r, r < 6 ∧ x = nI r ∧ M_X4_isNumber 6 40 x = 1 ∧ M_X7_isRow x = 1) ∨ (M_X4_isNumber 6 40 x = 0 ∧ M_X7_isRow x = 0) := by
  have e : M_X7_isRow x = if (x < 0 ∨ (5 : Int32) < x) then 0 else 1 := pu_in1 x 0 5
  rcases pu_num (N := 6) (M := 40) (by decide) x with ⟨r, h, rfl, h2⟩ | ⟨h, h2⟩
  · refine .inl ⟨r, h, rfl, h2, ?_⟩
    rw [e, if_neg]
    rintro (q | q)
    · exact nI_pos (by omega) q
    · exact pu_nlt (a := 5) (by omega) (by omega) (by omega) q
  · refine .inr ⟨h2, ?_⟩
    rw [e, if_pos]
    rcases h with h | h
    · exact .inl h
    · exact .inr (pu_lt_le (k := 5) (by omega) h (by omega))
theorem pu_numT (x : Int32) : (∃ r, r < 4 ∧ x = nI r ∧ M_X4_isNumber 4 60 x = 1 ∧ M_X7_isText x = 1) ∨ (M_X4_isNumber 4 60 x = 0 ∧ M_X7_isText x = 0) := by
  have e : M_X7_isText x = if (x < 0 ∨ (3 : Int32) < x) then 0 else 1 := pu_in1 x 0 3
  rcases pu_num (N := 4) (M := 60) (by decide) x with ⟨r, h, rfl, h2⟩ | ⟨h, h2⟩
  · refine .inl ⟨r, h, rfl, h2, ?_⟩
    rw [e, if_neg]
    rintro (q | q)
    · exact nI_pos (by omega) q
    · exact pu_nlt (a := 3) (by omega) (by omega) (by omega) q
  · refine .inr ⟨h2, ?_⟩
    rw [e, if_pos]
    rcases h with h | h
    · exact .inl h
    · exact .inr (pu_lt_le (k := 3) (by omega) h (by omega))
section
variable {N M : Nat} {sizes : Nat → Int32} {places : Nat → Nat → Int32} {r : Nat}
theorem pu_isN (hr : r < N) (hN : N < 2 ^ 31) : M_X4_isNumber N M (nI r) = 1 := by
  unfold M_X4_isNumber
  rw [if_neg (nI_pos (by omega))]
  exact if_neg (nI_ge hr hN)
theorem pu_size (hr : r < N) (hN : N < 2 ^ 31) : M_X4_size N M sizes (nI r) = some (sizes r) := by
  unfold M_X4_size
  rw [pu_isN hr hN, if_neg (by decide), if_pos (pu_inb hr hN), nI_clamp (by omega)]
theorem pu_there0 (hr : r < N) (hN : N < 2 ^ 31) (h : sizes r = -1) : M_X4_isThere N M sizes (nI r) = some 0 := by
  unfold M_X4_isThere
  rw [pu_size hr hN, Option.bind_some, h, if_pos rfl]
theorem pu_there1 (hr : r < N) (hN : N < 2 ^ 31) {z : Nat} (hz : z < 2 ^ 31) (h : sizes r = nI z) : M_X4_isThere N M sizes (nI r) = some 1 := by
  unfold M_X4_isThere
  rw [pu_size hr hN, Option.bind_some, h, if_neg (pu_nI1 hz)]
theorem pu_place1 (hr : r < N) (hN : N < 2 ^ 31) {z i : Nat} (hz : z < 2 ^ 31) (h : sizes r = nI z) (hi : i < z) : M_X4_hasPlace N M sizes (nI r) (nI i) = some 1 := by
  unfold M_X4_hasPlace
  rw [if_neg (nI_pos (by omega)), pu_size hr hN, Option.bind_some, h, if_neg (pu_nle (by omega) (by omega) hi)]
theorem pu_place0 (hr : r < N) (hN : N < 2 ^ 31) {z : Nat} (h : sizes r = nI z) {x : Int32} (hx : x < 0 ∨ nI z ≤ x) : M_X4_hasPlace N M sizes (nI r) x = some 0 := by
  unfold M_X4_hasPlace
  by_cases h0 : x < 0
  · rw [if_pos h0]
  · rw [if_neg h0, pu_size hr hN, Option.bind_some, h, if_pos (hx.resolve_left h0)]
theorem pu_get (hr : r < N) (hN : N < 2 ^ 31) {z i : Nat} (hz : z ≤ M) (hM : M < 2 ^ 31) (h : sizes r = nI z) (hi : i < z) : M_X4_get N M sizes places (nI r) (nI i) = some (places r i) := by
  unfold M_X4_get
  rw [pu_place1 hr hN (by omega) h hi, Option.bind_some, if_neg (by decide), if_pos (pu_inb hr hN), if_pos (pu_inb (by omega) hM), nI_clamp (by omega), nI_clamp (by omega)]
theorem pu_set (hr : r < N) (hN : N < 2 ^ 31) {z i : Nat} (hz : z ≤ M) (hM : M < 2 ^ 31) (h : sizes r = nI z) (hi : i < z) (v : Int32) : M_X4_set N M sizes places (nI r) (nI i) v = some (upd2 places r (upd (places r) i v)) := by
  unfold M_X4_set
  rw [pu_place1 hr hN (by omega) h hi, Option.bind_some, if_neg (by decide), if_pos (pu_inb hr hN), if_pos (pu_inb (by omega) hM), nI_clamp (by omega), nI_clamp (by omega)]
theorem pu_make (hr : r < N) (hN : N < 2 ^ 31) {z : Nat} (hz : z ≤ M) (hM : M < 100000) {most blank : Int32} (hm : most = nI M) :
    ∃ q, M_X4_make N M most blank sizes places (nI r) (nI z) = some (upd sizes r (nI z), upd2 places r q) ∧ ∀ i, i < z → q i = blank := by
  subst hm
  unfold M_X4_make
  rw [pu_isN hr hN, if_neg (by decide), if_neg (nI_pos (by omega)), if_neg (pu_nlt (by omega) (by omega) hz), if_pos (pu_inb hr hN), nI_clamp (by omega)]
  exact pu_lp (fun n k (s : Nat → Nat → Int32) => ∃ q, M_X4_make_b29 N M (nI M) blank n (upd sizes r (nI z)) s (nI r) (nI z) (nI k) = some (upd sizes r (nI z), upd2 places r q) ∧ ∀ i, i < z → q i = blank)
    (fun k s => ∃ q, s = upd2 places r q ∧ ∀ i, i < k → q i = blank) z (by omega)
    (fun n s ⟨q, h1, h2⟩ => ⟨q, by rw [M_X4_make_b29, if_pos (pu_le (by omega) (by omega) (Nat.le_refl z)), h1], h2⟩)
    (fun n k s hk ⟨q, h1, h2⟩ ih => by
      rw [M_X4_make_b29, if_neg (nI_ge hk (by omega)), if_pos (pu_inb hr hN), if_pos (pu_inb (by omega) (by omega)), nI_clamp (by omega), nI_clamp (by omega), nI_1]
      refine ih _ ⟨upd q k blank, ?_, ?_⟩
      · rw [h1, pu_22, pu_2s]
      · intro i hi
        by_cases e : i = k
        · subst e; rw [pu_us]
        · rw [pu_un e]; exact h2 i (by omega))
    places ⟨places r, pu_2f.symm, fun i hi => absurd hi (by omega)⟩
theorem pu_S_make {rl rw rw' q : Nat → Int32} {b : Int32} (h : pu_S N M sizes places rl rw) (hr : r < N) {z : Nat} (hz : z ≤ M) (hq : ∀ i, i < z → q i = b)
    (h1 : ∀ i, i < z → rw' (M * r + i) = b) (h2 : ∀ j, (j < M * r ∨ M * r + z ≤ j) → rw' j = rw j) : pu_S N M (upd sizes r (nI z)) (upd2 places r q) (upd rl r (nI z)) rw' := by
  intro r' hr'
  by_cases e : r' = r
  · subst e
    rw [pu_us, pu_us]
    exact ⟨rfl, .inr ⟨z, hz, rfl, fun i hi => by rw [pu_2s, hq i hi, h1 i hi]⟩⟩
  · rw [pu_un e, pu_un e]
    refine ⟨(h r' hr').1, (h r' hr').2.imp id (fun ⟨z', a, b, c⟩ => ⟨z', a, b, fun i hi => ?_⟩)⟩
    rw [pu_2n e, h2 _ ?_, c i hi]
    rcases Nat.lt_or_gt_of_ne e with q | q
    · have := Nat.mul_le_mul_left M (show r' + 1 ≤ r by omega)
      rw [Nat.mul_add] at this
      omega
    · have := Nat.mul_le_mul_left M (show r + 1 ≤ r' by omega)
      rw [Nat.mul_add] at this
      omega
theorem pu_S_set {rl rw : Nat → Int32} (h : pu_S N M sizes places rl rw) (hr : r < N) {i : Nat} (hi : i < M) (v : Int32) :
    pu_S N M sizes (upd2 places r (upd (places r) i v)) rl (upd rw (M * r + i) v) := by
  intro r' hr'
  refine ⟨(h r' hr').1, (h r' hr').2.imp id (fun ⟨z', a, b, c⟩ => ⟨z', a, b, fun j hj => ?_⟩)⟩
  by_cases e : r' = r
  · subst e
    rw [pu_2s]
    by_cases e2 : j = i
    · subst e2; rw [pu_us, pu_us]
    · rw [pu_un e2, pu_un (by omega), c j hj]
  · rw [pu_2n e, pu_un ?_, c j hj]
    rcases Nat.lt_or_gt_of_ne e with q | q
    · have := Nat.mul_le_mul_left M (show r' + 1 ≤ r by omega)
      rw [Nat.mul_add] at this
      omega
    · have := Nat.mul_le_mul_left M (show r + 1 ≤ r' by omega)
      rw [Nat.mul_add] at this
      omega
theorem pu_S_drop {rl rw : Nat → Int32} (h : pu_S N M sizes places rl rw) : pu_S N M (upd sizes r (-1)) places (upd rl r (-1)) rw := by
  intro r' hr'
  by_cases e : r' = r
  · subst e
    rw [pu_us, pu_us]
    exact ⟨rfl, .inl rfl⟩
  · rw [pu_un e, pu_un e]
    exact h r' hr'
end
theorem pu_inS {z : Nat} (hz : z < 2 ^ 31) (x : Int32) : (∃ i, i < z ∧ x = nI i ∧ M_X7_in x.toInt64 (0 : Int64) ((nI z - (1 : Int32)).toInt64) = 1) ∨ ((x < 0 ∨ nI z ≤ x) ∧ M_X7_in x.toInt64 (0 : Int64) ((nI z - (1 : Int32)).toInt64) = 0) := by
  have e : M_X7_in x.toInt64 (0 : Int64) ((nI z - (1 : Int32)).toInt64) = if (x < 0 ∨ nI z - (1 : Int32) < x) then 0 else 1 := pu_in1 x 0 _
  rw [e]
  rcases pu_ix x hz with ⟨k, h, rfl⟩ | h | h
  · obtain ⟨w, rfl⟩ : ∃ w, z = w + 1 := ⟨z - 1, by omega⟩
    rw [nI_pred]
    refine .inl ⟨k, h, rfl, if_neg ?_⟩
    rintro (q | q)
    · exact nI_pos (by omega) q
    · exact pu_nlt (by omega) (by omega) (by omega) q
  · exact .inr ⟨.inl h, if_pos (.inl h)⟩
  · refine .inr ⟨.inr h, if_pos (.inr ?_)⟩
    rcases Nat.eq_zero_or_pos z with e | e
    · subst e
      rw [Int32.lt_iff_toInt_lt]
      rw [Int32.le_iff_toInt_le, nI_toInt hz] at h
      have : (nI 0 - (1 : Int32)).toInt = -1 := by decide
      omega
    · obtain ⟨w, rfl⟩ : ∃ w, z = w + 1 := ⟨z - 1, by omega⟩
      rw [nI_pred]
      exact pu_lt_le (by omega) h hz
theorem pu_e40 (r i : Nat) : ((40 : Int32) * nI r) + nI i = nI (40 * r + i) := by
  rw [show (40 : Int32) = nI 40 from rfl, pk_mul, nI_add]
theorem pu_e60 (r i : Nat) : ((60 : Int32) * nI r) + nI i = nI (60 * r + i) := by
  rw [show (60 : Int32) = nI 60 from rfl, pk_mul, nI_add]
theorem pu_fillR {rw rl found : Nat → Int32} {latest : Int32} {r z : Nat} (hr : r < 6) (hz : z ≤ 40) : ∃ rw', M_X7_row_b34 x_fuel rw rl found latest (nI r) (nI z) 0 = some (nI z, rw', rl, found, latest) ∧ (∀ i, i < z → rw' (40 * r + i) = 0) ∧ ∀ j, (j < 40 * r ∨ 40 * r + z ≤ j) → rw' j = rw j :=
  pu_lp (fun n k s => ∃ rw', M_X7_row_b34 n s rl found latest (nI r) (nI z) (nI k) = some (nI z, rw', rl, found, latest) ∧ (∀ i, i < z → rw' (40 * r + i) = 0) ∧ ∀ j, (j < 40 * r ∨ 40 * r + z ≤ j) → rw' j = rw j)
    (fun k s => (∀ i, i < k → s (40 * r + i) = 0) ∧ ∀ j, (j < 40 * r ∨ 40 * r + z ≤ j) → s j = rw j) z (by omega)
    (fun n s h => ⟨s, by rw [M_X7_row_b34, if_pos (pu_le (by omega) (by omega) (Nat.le_refl z))], h.1, h.2⟩)
    (fun n k s hk h ih => by
      rw [M_X7_row_b34, if_neg (nI_ge hk (by omega)), pu_e40, if_pos (pu_inb (by omega) (by omega)), nI_clamp (by omega), nI_1]
      refine ih _ ⟨fun i hi => ?_, fun j hj => ?_⟩
      · by_cases e : i = k
        · subst e; rw [pu_us]
        · rw [pu_un (by omega)]; exact h.1 i (by omega)
      · rw [pu_un (by omega)]; exact h.2 j hj)
    rw ⟨fun i hi => absurd hi (by omega), fun j _ => rfl⟩
theorem pu_fillT {rw rl found : Nat → Int32} {latest : Int32} {r z : Nat} (hr : r < 4) (hz : z ≤ 60) : ∃ rw', M_X7_text_b34 x_fuel rw rl found latest (nI r) (nI z) 0 = some (nI z, rw', rl, found, latest) ∧ (∀ i, i < z → rw' (60 * r + i) = 32) ∧ ∀ j, (j < 60 * r ∨ 60 * r + z ≤ j) → rw' j = rw j :=
  pu_lp (fun n k s => ∃ rw', M_X7_text_b34 n s rl found latest (nI r) (nI z) (nI k) = some (nI z, rw', rl, found, latest) ∧ (∀ i, i < z → rw' (60 * r + i) = 32) ∧ ∀ j, (j < 60 * r ∨ 60 * r + z ≤ j) → rw' j = rw j)
    (fun k s => (∀ i, i < k → s (60 * r + i) = 32) ∧ ∀ j, (j < 60 * r ∨ 60 * r + z ≤ j) → s j = rw j) z (by omega)
    (fun n s h => ⟨s, by rw [M_X7_text_b34, if_pos (pu_le (by omega) (by omega) (Nat.le_refl z))], h.1, h.2⟩)
    (fun n k s hk h ih => by
      rw [M_X7_text_b34, if_neg (nI_ge hk (by omega)), pu_e60, if_pos (pu_inb (by omega) (by omega)), nI_clamp (by omega), nI_1]
      refine ih _ ⟨fun i hi => ?_, fun j hj => ?_⟩
      · by_cases e : i = k
        · subst e; rw [pu_us]
        · rw [pu_un (by omega)]; exact h.1 i (by omega)
      · rw [pu_un (by omega)]; exact h.2 j hj)
    rw ⟨fun i hi => absurd hi (by omega), fun j _ => rfl⟩
