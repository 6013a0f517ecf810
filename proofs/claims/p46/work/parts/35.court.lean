/-! PURE PART: the court on both sides -/
theorem ha_b (x : Int32) {i : Nat} (hi : i < 32) : M_X7_has x (nI i) = if bt x i then 1 else 0 := by
  unfold M_X7_has
  cases h : bt x i
  · rw [if_neg (fun q => by rw [(b_bit1 x hi).mp q] at h; exact Bool.noConfusion h)]; rfl
  · rw [if_pos ((b_bit1 x hi).mpr h)]; rfl
def pu_RS (R A : Nat) (kinds strengths moved needs forbids m : Nat → Int32) : Prop :=
  R ≤ 6 ∧ A ≤ 4 ∧ m 0 = nI R ∧ m 1 = nI A ∧
  (∀ i, i < R → m (2 + i) = kinds i ∧ (∃ k, k < 6 ∧ kinds i = nI k) ∧ m (8 + i) = strengths i ∧ (∃ v, v < 10 ∧ 1 ≤ v ∧ strengths i = nI v) ∧
    M_X2_target (nI R) moved (nI i) = some (m (14 + i)) ∧ (m (14 + i) = -9 ∨ ∃ j, j < R ∧ j ≠ i ∧ m (14 + i) = nI j)) ∧
  (∀ a, a < A → m (27 + a) = needs a ∧ m (31 + a) = forbids a ∧ (∃ k, k < 64 ∧ needs a = nI k) ∧ (∃ k, k < 64 ∧ forbids a = nI k))
theorem pu_RS.of {R A : Nat} {kinds strengths moved needs forbids m m' : Nat → Int32} (h : pu_RS R A kinds strengths moved needs forbids m) (e : ∀ j, j < 35 → m' j = m j) : pu_RS R A kinds strengths moved needs forbids m' := by
  obtain ⟨h1, h2, h3, h4, h5, h6⟩ := h
  refine ⟨h1, h2, by rw [e _ (by omega), h3], by rw [e _ (by omega), h4], fun i hi => ?_, fun a ha => ?_⟩
  · rw [e _ (by omega), e _ (by omega), e _ (by omega)]; exact h5 i hi
  · rw [e _ (by omega), e _ (by omega)]; exact h6 a ha
def pu_CD (R : Nat) (s : Int64) (m : Nat → Int32) : Prop :=
  (∀ i, i < R → m (76 + i) = M_X5_strain s (nI i)) ∧ (∀ i, R ≤ i → i < 6 → M_X5_strain s (nI i) = 0) ∧ m 82 = M_X5_letGo s ∧ m 83 = M_X5_parted s ∧ m 84 = M_X5_frostIn s
theorem pu_CD.of {R : Nat} {s : Int64} {m m' : Nat → Int32} (h : pu_CD R s m) (hR : R ≤ 6) (e : ∀ j, 76 ≤ j → j < 85 → m' j = m j) : pu_CD R s m' := by
  obtain ⟨h1, h2, h3, h4, h5⟩ := h
  refine ⟨fun i hi => ?_, h2, ?_, ?_, ?_⟩
  · rw [e _ (by omega) (by omega)]; exact h1 i hi
  · rw [e _ (by omega) (by omega)]; exact h3
  · rw [e _ (by omega) (by omega)]; exact h4
  · rw [e _ (by omega) (by omega)]; exact h5
section
variable {R A : Nat} {kinds strengths moved needs forbids m : Nat → Int32}
theorem rs_isRope (hR : R ≤ 6) {i : Nat} (hi : i < R) : M_X2_isRope (nI R) (nI i) = 1 := by
  unfold M_X2_isRope
  rw [if_neg (nI_pos (by omega)), if_neg (nI_ge hi (by omega)), if_neg (gN 6 (by omega))]
theorem rs_rope (hR : R ≤ 6) (x : Int32) : (∃ i, i < R ∧ x = nI i ∧ M_X2_isRope (nI R) x = 1) ∨ ((x < 0 ∨ nI R ≤ x) ∧ M_X2_isRope (nI R) x = 0) := by
  rcases pu_ix x (show R < 2 ^ 31 by omega) with ⟨k, h, rfl⟩ | h | h
  · exact .inl ⟨k, h, rfl, rs_isRope hR h⟩
  · refine .inr ⟨.inl h, ?_⟩; unfold M_X2_isRope; rw [if_pos h]
  · refine .inr ⟨.inr h, ?_⟩
    unfold M_X2_isRope
    by_cases h0 : x < 0
    · rw [if_pos h0]
    · rw [if_neg h0, if_pos h]
theorem rs_kind (hR : R ≤ 6) {i : Nat} (hi : i < R) : M_X2_kind (nI R) kinds (nI i) = some (kinds i) := by
  unfold M_X2_kind
  rw [rs_isRope hR hi, if_neg (by decide), if_pos (pu_inb (by omega) (by omega)), nI_clamp (by omega)]
theorem rs_holds (h : pu_RS R A kinds strengths moved needs forbids m) {i : Nat} (hi : i < R) : ∃ v, v < 10 ∧ M_X2_holds (nI R) kinds strengths (nI i) = some (nI v) ∧ M_X7_holdsOf_85 m (nI i) = some (nI v) := by
  obtain ⟨h1, h2, h3, h4, h5, h6⟩ := h
  obtain ⟨a1, ⟨k, hk, a2⟩, a3, ⟨v, hv, hv1, a4⟩, -, -⟩ := h5 i hi
  unfold M_X2_holds M_X7_holdsOf_85
  rw [rs_isRope h1 hi, if_neg (by decide), rs_kind h1 hi, Option.bind_some, if_pos (pu_inb (show i < 6 by omega) (by omega)), if_pos (pu_inb (show i < 6 by omega) (by omega)), nI_clamp (by omega),
    if_pos (iO 2 (by omega)), cO 2 (by omega), if_pos (iO 8 (by omega)), if_pos (iO 8 (by omega)), cO 8 (by omega), a1, a3, a4]
  by_cases q : kinds i = 2
  · rw [if_pos q]
    refine ⟨v - 1, by omega, ?_, ?_⟩ <;> exact congrArg some (pk_sub (b := 1) hv1)
  · rw [if_neg q]
    exact ⟨v, hv, rfl, rfl⟩
theorem rs_fast {s : Int64} (h : pu_CD R s m) {i : Nat} (hi : i < 6) : M_X7_isFast_85 m (nI i) = M_X5_isFast s (nI i) := by
  obtain ⟨h1, h2, h3, h4, h5⟩ := h
  unfold M_X7_isFast_85
  rw [h3, h4, ha_b _ (by omega), ha_b _ (by omega), st_letGo s (by omega), st_parted s (by omega), decide_eq_true hi, Bool.true_and, Bool.true_and, st_isFast s hi]
  cases bl s (24 + i) <;> cases bl s (30 + i) <;> rfl
theorem pa_eq (k : Int32) {v : Nat} (hv : v < 2 ^ 31) : M_X6_passed k (nI v) = M_X7_passesAs k (nI v) := by
  have e : M_J9_max_7cf53 (nI v - (1 : Int32)) 0 = if nI v ≤ 0 then 0 else nI v - (1 : Int32) := by
    unfold M_J9_max_7cf53
    rcases Nat.eq_zero_or_pos v with q | q
    · subst q; decide
    · obtain ⟨w, rfl⟩ : ∃ w, v = w + 1 := ⟨v - 1, by omega⟩
      rw [nI_pred, if_neg (nI_pos (by omega)), if_neg (nI_nle (by omega) hv)]
  unfold M_X6_passed M_X7_passesAs
  rw [e]
  by_cases q : nI v ≤ 0
  · rw [if_pos q, if_pos q]; rfl
  · rw [if_neg q, if_neg q]; rfl
theorem pa_lt {k v : Nat} (hk : k < 6) (hv : v < 2 ^ 31) : ∃ w, w ≤ v ∧ M_X7_passesAs (nI k) (nI v) = nI w := by
  unfold M_X7_passesAs
  have e : ∀ u, u ≤ v → ∃ w, w ≤ v ∧ M_X7_passesAs_b11 (nI k) (nI v) (nI u) = nI w := by
    intro u hu
    unfold M_X7_passesAs_b11
    split
    · exact ⟨0, by omega, rfl⟩
    · split
      · exact ⟨v, by omega, rfl⟩
      · split
        · exact ⟨u, hu, rfl⟩
        · split
          · exact ⟨0, by omega, rfl⟩
          · split
            · exact ⟨u / 2, by omega, pk_div (d := 2) (by omega) (by omega) (by omega)⟩
            · exact ⟨v / 2, by omega, pk_div (d := 2) (by omega) (by omega) (by omega)⟩
  by_cases q : nI v ≤ 0
  · rw [if_pos q]; exact e 0 (by omega)
  · rw [if_neg q]
    have : v ≠ 0 := fun h => q (by rw [h]; decide)
    rw [show nI v - (1 : Int32) = nI (v - 1) from pk_sub (b := 1) (by omega)]
    exact e (v - 1) (by omega)
end
/-! how many ropes are in a set -/
def pc (x : Int32) : Nat := (bt x 0).toNat + (bt x 1).toNat + (bt x 2).toNat + (bt x 3).toNat + (bt x 4).toNat + (bt x 5).toNat
theorem pc_0 : pc 0 = 0 := by decide
theorem pc_add {x : Int32} {i : Nat} (hi : i < 6) (h : bt x i = false) : pc (x ||| ((1 : Int32) <<< (nI i &&& 31))) = pc x + 1 := by
  unfold pc
  simp only [b_or]
  rw [b_sb (i := 0) (n := i) (by omega) (by omega), b_sb (i := 1) (n := i) (by omega) (by omega), b_sb (i := 2) (n := i) (by omega) (by omega), b_sb (i := 3) (n := i) (by omega) (by omega), b_sb (i := 4) (n := i) (by omega) (by omega), b_sb (i := 5) (n := i) (by omega) (by omega)]
  have : i = 0 ∨ i = 1 ∨ i = 2 ∨ i = 3 ∨ i = 4 ∨ i = 5 := by omega
  rcases this with e | e | e | e | e | e <;> subst e <;> rw [h] <;> simp <;> omega
theorem pc_6 {x : Int32} (h : 6 ≤ pc x) {i : Nat} (hi : i < 6) : bt x i = true := by
  unfold pc at h
  have a0 : (bt x 0).toNat ≤ 1 := Bool.toNat_le _
  have a1 : (bt x 1).toNat ≤ 1 := Bool.toNat_le _
  have a2 : (bt x 2).toNat ≤ 1 := Bool.toNat_le _
  have a3 : (bt x 3).toNat ≤ 1 := Bool.toNat_le _
  have a4 : (bt x 4).toNat ≤ 1 := Bool.toNat_le _
  have a5 : (bt x 5).toNat ≤ 1 := Bool.toNat_le _
  have : i = 0 ∨ i = 1 ∨ i = 2 ∨ i = 3 ∨ i = 4 ∨ i = 5 := by omega
  rcases this with e | e | e | e | e | e <;> subst e
  · cases q : bt x 0
    · rw [q] at h; simp at h; omega
    · rfl
  · cases q : bt x 1
    · rw [q] at h; simp at h; omega
    · rfl
  · cases q : bt x 2
    · rw [q] at h; simp at h; omega
    · rfl
  · cases q : bt x 3
    · rw [q] at h; simp at h; omega
    · rfl
  · cases q : bt x 4
    · rw [q] at h; simp at h; omega
    · rfl
  · cases q : bt x 5
    · rw [q] at h; simp at h; omega
    · rfl
