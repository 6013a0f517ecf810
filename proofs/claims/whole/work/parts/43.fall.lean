/-! PURE PART: what can be cut -/
section
variable {R A D : Nat} {kinds strengths moved needs forbids now : Nat → Int32} {st : Nat → Int64}
/-- a set of ropes that can fall -/
def cf (R : Nat) (p : Int32) (x : Int32) : Prop := (x &&& (((((1 : Int32) <<< (nI R &&& 31)) - 1) &&& (p ^^^ (-1))) ^^^ (-1))) = 0
theorem cf_C (hD : D ≤ 40) (x : Int32) : M_X6_canFall st (nI D) (nI R) x = some (if (x &&& (((((1 : Int32) <<< (nI R &&& 31)) - 1) &&& (M_X5_parted (st D) ^^^ (-1))) ^^^ (-1))) = 0 then 1 else 0) := by
  unfold M_X6_canFall M_X2_allRopes
  rw [now_C hD, Option.bind_some]
  split <;> rfl
theorem cf_hi (hR : R ≤ 6) (p : Int32) {k : Nat} (hk : k < 64) (h : 2 ^ R ≤ k) : ¬ (nI k &&& (((((1 : Int32) <<< (nI R &&& 31)) - 1) &&& (p ^^^ (-1))) ^^^ (-1))) = 0 := by
  intro q
  apply pw_hi R (by omega) k hk h
  rw [bx_0] at q ⊢
  intro j hj
  have := q j hj
  rw [b_and, b_not _ hj, b_and, b_not _ hj] at this
  rw [b_and, b_not _ hj]
  cases h1 : bt (nI k) j <;> cases h2 : bt (((1 : Int32) <<< (nI R &&& 31)) - 1) j <;> cases h3 : bt p j <;> simp [h1, h2, h3] at this ⊢
theorem cf_lo (hR : R ≤ 6) (p : Int32) {k : Nat} (h : k < 2 ^ R) : (nI k &&& (((((1 : Int32) <<< (nI R &&& 31)) - 1) &&& (p ^^^ (-1))) ^^^ (-1))) = 0 ↔ (nI k &&& p) = 0 := by
  have hk : k < 64 := Nat.lt_of_lt_of_le h (Nat.pow_le_pow_right (n := 2) (by decide) hR)
  have hl := pw_lo R (by omega) k hk h
  rw [bx_0] at hl
  rw [bx_0, bx_0]
  constructor
  · intro q j hj
    have := q j hj
    have l := hl j hj
    rw [b_and, b_not _ hj, b_and, b_not _ hj] at this
    rw [b_and, b_not _ hj] at l
    rw [b_and]
    cases h1 : bt (nI k) j <;> cases h2 : bt (((1 : Int32) <<< (nI R &&& 31)) - 1) j <;> cases h3 : bt p j <;> simp [h1, h2, h3] at this l ⊢
  · intro q j hj
    have := q j hj
    have l := hl j hj
    rw [b_and, b_not _ hj] at l
    rw [b_and] at this
    rw [b_and, b_not _ hj, b_and, b_not _ hj]
    cases h1 : bt (nI k) j <;> cases h2 : bt (((1 : Int32) <<< (nI R &&& 31)) - 1) j <;> cases h3 : bt p j <;> simp [h1, h2, h3] at this l ⊢
theorem p_fall (h : pu_C R A kinds strengths moved needs forbids st D now) (la : Int32) : ∃ v la', M_X6_fall st (nI D) (nI R) (nI A) needs forbids la = some (v, la') ∧ M_X7_fall now la = some (v, la') := by
  obtain ⟨h1, h2, h3, h4, h5⟩ := h
  have hR := h1.1
  have e0 := h1.2.2.1
  have hp : 2 ^ R ≤ 64 := Nat.pow_le_pow_right (n := 2) (by decide) hR
  unfold M_X6_fall M_X7_fall M_X2_isEmpty
  rw [e0]
  by_cases q : R = 0
  · subst q; exact ⟨_, _, rfl, rfl⟩
  rw [if_neg (eN 0 q (by omega)), if_neg (eN 0 q (by omega)), if_pos p00]
  -- the end of the class's loop
  let fin : Int32 → Option (Int32 × Int32) := fun b => if b = (-9 : Int32) then some ((-9 : Int32), la) else some ((M_J6_bitCount_0f7a4 b), (M_X6_tell la b).2)
  have tail : ∀ (n : Nat) (b : Int32), 100 < n → M_X6_fall_b18 st (nI D) (nI R) (nI A) needs forbids n la b (nI (2 ^ R)) = fin b := by
    intro n b hn
    exact pu_loop (fun n k (x : Int32) => 2 ^ R ≤ k → M_X6_fall_b18 st (nI D) (nI R) (nI A) needs forbids n la x (nI k) = fin x)
      (fun k x => True) 64
      (fun n x _ _ => by rw [M_X6_fall_b18, if_pos (show (64 : Int32) ≤ nI 64 by decide)])
      (fun n k x hk _ ih hk2 => by
        have i1 := ih x trivial (by omega)
        rw [M_X6_fall_b18, if_neg (gN 64 hk)]
        unfold M_X6_fall_b41 M_X6_fall_b46 M_X6_fall_b82
        rw [cf_C h3, if_neg (cf_hi hR _ hk hk2), Option.bind_some, if_pos p00, if_pos p00, nI_1, if_neg n10]
        by_cases w : x = -9
        · rw [if_pos w]; exact i1
        · rw [if_neg w, ite_self]; exact i1)
      (64 - 2 ^ R) n (2 ^ R) b (Nat.add_sub_cancel' hp) (Nat.lt_of_le_of_lt (Nat.sub_le _ _) (by omega)) trivial (Nat.le_refl _)
  exact pu_loop (fun n k (x : Int32) => n + k = 1000000 → ∃ v la', M_X6_fall_b18 st (nI D) (nI R) (nI A) needs forbids n la x (nI k) = some (v, la') ∧ M_X7_fall_b17 now n la x (nI k) = some (v, la'))
    (fun k x => x = -9 ∨ ∃ b, b < 64 ∧ x = nI b) (2 ^ R)
    (fun n x hx hn => by
      rw [tail (n + 1) x (by omega), M_X7_fall_b17, e0, pw_b R (by omega), if_pos (pu_le (by omega) (by omega) (Nat.le_refl _))]
      unfold M_X7_fall_b116
      rcases hx with hx | ⟨b, hb, hx⟩
      · subst hx
        exact ⟨_, _, rfl, rfl⟩
      · subst hx
        show ∃ v la', (if nI b = (-9 : Int32) then some ((-9 : Int32), la) else some ((M_J6_bitCount_0f7a4 (nI b)), (M_X6_tell la (nI b)).2)) = some (v, la') ∧ _
        rw [if_neg (pu_nI9 (by omega)), if_neg (pu_nI9 (by omega)), if_neg (pu_nI9 (by omega)), (bc_eq b hb).1]
        exact ⟨_, _, rfl, rfl⟩)
    (fun n k x hk hx ih hn => by
      have hk64 : k < 64 := by omega
      obtain ⟨l1, l2, w, hw, l3⟩ := lw_cut h1 h2 (nI k)
      have stay := ih x hx (by omega)
      have go := ih (nI k) (.inr ⟨k, hk64, rfl⟩) (by omega)
      rw [M_X6_fall_b18, if_neg (gN 64 hk64), M_X7_fall_b17, e0, pw_b R (by omega), if_neg (nI_ge hk (by omega)), tt_eq h1 h2, Option.bind_some, l2, Option.bind_some, h2.2.2.2.1]
      unfold M_X6_fall_b41 M_X6_fall_b46 M_X6_fall_b82 M_X7_fall_b66 M_X7_fall_b67 M_X7_fall_b93 M_X7_fall_b89 M_X7_fall_b94
      rw [cf_C h3, Option.bind_some, now_C h3, Option.bind_some, st_apE, Option.bind_some, l1, Option.bind_some]
      simp only [nI_1, if_neg n10, if_pos p00, (bc_eq k hk64).1, Option.bind_some]
      by_cases c1 : (nI k &&& M_X5_parted (st D)) = 0
      · have c2 := (cf_lo hR (M_X5_parted (st D)) hk).mpr c1
        simp only [if_pos c1, if_pos c2, if_neg n10]
        by_cases c3 : lawF R A needs forbids (tautF (st D) &&& (nI k ^^^ (-1))) = 0
        · simp only [if_pos c3]
          rcases hx with hx | ⟨b, hb, hx⟩
          · subst hx
            simpa only [if_true] using go
          · subst hx
            simp only [if_neg (pu_nI9 (show b < 2 ^ 31 by omega)), (bc_eq b hb).1, Option.bind_some]
            by_cases c4 : M_J6_bitCount_0f7a4 (nI b) ≤ M_J6_bitCount_0f7a4 (nI k)
            · simp only [if_pos c4]; exact stay
            · simp only [if_neg c4]; exact go
        · simp only [if_neg c3, ite_self]
          exact stay
      · have c2 : ¬ _ := fun z => c1 ((cf_lo hR (M_X5_parted (st D)) hk).mp z)
        simp only [if_neg c1, if_neg c2, if_pos p00, if_true, ite_self]
        exact stay)
    (2 ^ R) x_fuel 0 (-9) (by omega) (by unfold x_fuel; omega) (.inl rfl) (by unfold x_fuel; omega)
theorem p_idle (h : pu_C R A kinds strengths moved needs forbids st D now) : ∃ v, M_X6_idle st (nI D) (nI R) (nI A) needs forbids = some v ∧ M_X7_idle now = some v := by
  obtain ⟨h1, h2, h3, h4, h5⟩ := h
  have hR := h1.1
  have e0 := h1.2.2.1
  unfold M_X6_idle M_X7_idle M_X2_isEmpty
  rw [e0]
  by_cases q : R = 0
  · subst q; exact ⟨_, rfl, rfl⟩
  rw [if_neg (eN 0 q (by omega)), if_neg (eN 0 q (by omega)), if_pos p00, now_C h3, Option.bind_some, tt_eq h1 h2, Option.bind_some, (lw_C h1 (fun j hj q => tt_all h1 h2 hj q)).2.1, Option.bind_some]
  exact pu_lp (fun n k (x : Int32) => ∃ v, M_X6_idle_b26 st (nI D) (nI R) (nI A) needs forbids n (st D) x (nI k) = some v ∧ M_X7_idle_b31 now n x (lawF R A needs forbids (tautF (st D))) (nI k) = some v)
    (fun _ _ => True) R (by omega)
    (fun n x _ => ⟨x, by rw [M_X6_idle_b26, if_pos (pu_le (by omega) (by omega) (Nat.le_refl R))], by rw [M_X7_idle_b31, e0, if_pos (pu_le (by omega) (by omega) (Nat.le_refl R))]⟩)
    (fun n k x hk _ ih => by
      obtain ⟨l1, l2, w, hw, l3⟩ := lw_cut h1 h2 ((1 : Int32) <<< (nI k &&& 31))
      have e00 : (x ||| 0 : Int32) = x := b_ext (fun j hj => by rw [b_or, b_0, Bool.or_false])
      rw [M_X6_idle_b26, M_X7_idle_b31, e0, if_neg (nI_ge hk (by omega)), if_neg (nI_ge hk (by omega)), cf_C h3, Option.bind_some, st_apE, Option.bind_some, l1, Option.bind_some, lw_A h1 h2, Option.bind_some, tt_eq h1 h2, Option.bind_some, l2, Option.bind_some, h2.2.2.2.1, ha_b _ (by omega), st_parted _ (by omega), decide_eq_true (by omega : k < 6), Bool.true_and]
      simp only [M_X6_idle_b82, M_X7_idle_b86, M_X7_idle_b87, nI_1, e00]
      have hc : ((((1 : Int32) <<< (nI k &&& 31)) &&& (((((1 : Int32) <<< (nI R &&& 31)) - 1) &&& (M_X5_parted (st D) ^^^ (-1))) ^^^ (-1))) = 0) ↔ bl (st D) (30 + k) = false := by
        rw [bx_0]
        constructor
        · intro z
          have := z k (by omega)
          rw [b_and, b_not _ (by omega), b_and, b_not _ (by omega), b_sb (by omega) (by omega), all_b R (by omega) k (by omega), st_parted _ (by omega), decide_eq_true (show k < 6 by omega), decide_eq_true hk, decide_eq_true rfl] at this
          simpa using this
        · intro z j hj
          rw [b_and, b_not _ hj, b_and, b_not _ hj, b_sb (by omega) hj]
          by_cases e : j = k
          · subst e
            rw [all_b R (by omega) j hj, st_parted _ hj, z, decide_eq_true hk]
            simp
          · rw [decide_eq_false e, Bool.false_and]
      cases hb : bl (st D) (30 + k)
      · simp only [if_pos (hc.mpr hb), if_neg n10, Bool.false_eq_true, if_false, if_pos p00]
        by_cases c3 : lawF R A needs forbids (tautF (st D) &&& (((1 : Int32) <<< (nI k &&& 31)) ^^^ (-1))) = lawF R A needs forbids (tautF (st D))
        · simp only [if_pos c3]; exact ih _ trivial
        · simp only [if_neg c3]; exact ih _ trivial
      · have c2 : ¬ _ := fun z => Bool.noConfusion (hb.symm.trans (hc.mp z))
        simp only [if_neg c2, if_pos p00, if_true, if_neg n10]
        exact ih _ trivial)
    0 trivial
end
