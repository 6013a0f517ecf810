/-! PURE PART: the fewest deeds by which an act is lawful -/
theorem pc_mono {x y : Int32} (h : ∀ j, j < 6 → bt x j = true → bt y j = true) : pc x ≤ pc y := by
  have f : ∀ j, j < 6 → (bt x j).toNat ≤ (bt y j).toNat := fun j hj => by
    have := h j hj
    cases h1 : bt x j
    · exact Nat.zero_le _
    · rw [this h1]; exact Nat.le_refl _
  have a0 := f 0 (by omega); have a1 := f 1 (by omega); have a2 := f 2 (by omega)
  have a3 := f 3 (by omega); have a4 := f 4 (by omega); have a5 := f 5 (by omega)
  unfold pc; omega
theorem pc_mono1 {x y : Int32} {i : Nat} (hi : i < 6) (h : ∀ j, j < 6 → j ≠ i → bt x j = true → bt y j = true) : pc x ≤ pc y + 1 := by
  have f : ∀ j, j < 6 → (bt x j).toNat ≤ (bt y j).toNat + (if j = i then 1 else 0) := fun j hj => by
    by_cases e : j = i
    · rw [if_pos e]; have := Bool.toNat_le (bt x j); omega
    · rw [if_neg e]
      have := h j hj e
      cases h1 : bt x j
      · exact Nat.zero_le _
      · rw [this h1]; exact Nat.le_refl _
  have a0 := f 0 (by omega); have a1 := f 1 (by omega); have a2 := f 2 (by omega)
  have a3 := f 3 (by omega); have a4 := f 4 (by omega); have a5 := f 5 (by omega)
  unfold pc
  have : i = 0 ∨ i = 1 ∨ i = 2 ∨ i = 3 ∨ i = 4 ∨ i = 5 := by omega
  rcases this with e | e | e | e | e | e <;> subst e <;> simp only [if_true, if_false, reduceIte, Nat.reduceEqDiff, Nat.zero_ne_one] at a0 a1 a2 a3 a4 a5 <;> omega
def pu_V (R A : Nat) (kinds strengths moved needs forbids : Nat → Int32) (s : Int64) : Prop := ∃ m, pu_RS R A kinds strengths moved needs forbids m ∧ pu_CD R s m
def lsS (R : Nat) (kinds strengths moved : Nat → Int32) (s : Int64) (c : Nat) : Option Int64 :=
  if c % 6 < R ∧ M_X5_isFast s (nI (c % 6)) = 1 then
    (if M_X5_parted (if c < 6 then hS R kinds strengths moved s (c % 6) 1 else M_X5_afterLetGo s (nI (c % 6))) = M_X5_parted s then some (if c < 6 then hS R kinds strengths moved s (c % 6) 1 else M_X5_afterLetGo s (nI (c % 6))) else none)
  else none
def lsOk (R : Nat) (kinds strengths moved needs forbids : Nat → Int32) (a : Nat) : Nat → Int64 → Nat → Bool
  | 0, s, _ => law1 R needs forbids (tautF s) a
  | k + 1, s, code => (lsS R kinds strengths moved s (code / 12 ^ k)).elim false (fun s' => lsOk R kinds strengths moved needs forbids a k s' (code % 12 ^ k))
def lack (R : Nat) (needs : Nat → Int32) (a : Nat) (s : Int64) : Int32 := (needs a &&& M_X2_allRopes (nI R)) &&& (tautF s ^^^ (-1))
def lost (s : Int64) : Int32 := M_X5_letGo s ||| M_X5_parted s
def forb (R : Nat) (forbids : Nat → Int32) (a : Nat) (s : Int64) : Int32 := (forbids a &&& M_X2_allRopes (nI R)) &&& tautF s
def mu (R : Nat) (needs forbids : Nat → Int32) (a : Nat) (s : Int64) : Nat := pc (forb R forbids a s) + (if lack R needs a s = 0 then 0 else 1)
section
variable {R A : Nat} {kinds strengths moved needs forbids : Nat → Int32} {s : Int64}
theorem lack_b (hR : R ≤ 6) (a : Nat) (s : Int64) {j : Nat} (hj : j < 32) : bt (lack R needs a s) j = (bt (needs a) j && decide (j < R) && decide (M_X5_strain s (nI j) = 0)) := by
  unfold lack M_X2_allRopes
  rw [b_and, b_and, b_not _ hj, all_b R (by omega) j hj, st_t s hj]
  by_cases q : j < R
  · rw [decide_eq_true q, decide_eq_true (show j < 6 by omega)]; simp
  · rw [decide_eq_false q]; simp
theorem forb_b (hR : R ≤ 6) (a : Nat) (s : Int64) {j : Nat} (hj : j < 32) : bt (forb R forbids a s) j = (bt (forbids a) j && decide (j < R) && !decide (M_X5_strain s (nI j) = 0)) := by
  unfold forb M_X2_allRopes
  rw [b_and, b_and, all_b R (by omega) j hj, st_t s hj]
  by_cases q : j < R
  · rw [decide_eq_true q, decide_eq_true (show j < 6 by omega)]; simp
  · rw [decide_eq_false q]; simp
theorem lost_b (s : Int64) {j : Nat} (hj : j < 6) : bt (lost s) j = (bl s (24 + j) || bl s (30 + j)) := by
  unfold lost
  rw [b_or, st_letGo s (by omega), st_parted s (by omega), decide_eq_true hj, Bool.true_and, Bool.true_and]
theorem far_0 (hR : R ≤ 6) {a : Nat} {s : Int64} (h : law1 R needs forbids (tautF s) a = true) : lack R needs a s = 0 ∧ mu R needs forbids a s = 0 := by
  obtain ⟨h1, h2⟩ := (law1_n hR a).mpr h
  have e1 : lack R needs a s = 0 := h1
  have e2 : forb R forbids a s = 0 := h2
  refine ⟨e1, ?_⟩
  unfold mu
  rw [e1, e2, if_pos rfl]
  decide
theorem far_1 (hR : R ≤ 6) {a : Nat} {s : Int64} (h : mu R needs forbids a s = 0) : law1 R needs forbids (tautF s) a = true := by
  apply (law1_n hR a).mp
  unfold mu at h
  by_cases q : lack R needs a s = 0
  · rw [if_pos q] at h
    refine ⟨q, ?_⟩
    rw [bx_0]
    intro j hj
    show bt (forb R forbids a s) j = false
    by_cases w : j < 6
    · have e := pc_6 (x := forb R forbids a s)
      unfold pc at h
      have : j = 0 ∨ j = 1 ∨ j = 2 ∨ j = 3 ∨ j = 4 ∨ j = 5 := by omega
      have g : ∀ z : Bool, z.toNat = 0 → z = false := fun z hz => by cases z <;> simp_all
      rcases this with e | e | e | e | e | e <;> subst e <;> exact g _ (by omega)
    · rw [forb_b hR a s hj, decide_eq_false (by omega)]; simp
  · rw [if_neg q] at h; omega
theorem V_step (hV : pu_V R A kinds strengths moved needs forbids s) {c : Nat} {s' : Int64} (h : lsS R kinds strengths moved s c = some s') : pu_V R A kinds strengths moved needs forbids s' := by
  obtain ⟨m, h1, h2⟩ := hV
  have hR := h1.1
  unfold lsS at h
  by_cases q : c % 6 < R ∧ M_X5_isFast s (nI (c % 6)) = 1
  · rw [if_pos q] at h
    by_cases q2 : M_X5_parted (if c < 6 then hS R kinds strengths moved s (c % 6) 1 else M_X5_afterLetGo s (nI (c % 6))) = M_X5_parted s
    · rw [if_pos q2] at h
      obtain rfl := Option.some.inj h
      by_cases q3 : c < 6
      · rw [if_pos q3]
        rcases fast_b (s := s) (i := c % 6) (by omega) with ⟨f1, f2, f3⟩ | f3
        · obtain ⟨-, m', pb', -, k2, k3, -⟩ := hl_H h1 h2 q.1 f1 f2 (v := 1) (by omega) (by omega)
          exact ⟨m', h1.of (fun j hj => k3 j (by omega)), k2⟩
        · rw [f3] at q; exact absurd q.2 (by decide)
      · rw [if_neg q3]
        exact ⟨_, h1.of (fun j hj => by rw [pu_un (by omega), pu_un (by omega)]), cd_lg hR h2 q.1⟩
    · rw [if_neg q2] at h; exact absurd h (by simp)
  · rw [if_neg q] at h; exact absurd h (by simp)
theorem mu_step (hV : pu_V R A kinds strengths moved needs forbids s) {a c : Nat} {s' : Int64} (h : lsS R kinds strengths moved s c = some s') : (lack R needs a s' &&& lost s' = 0 → lack R needs a s &&& lost s = 0) ∧ mu R needs forbids a s ≤ mu R needs forbids a s' + 1 := by
  obtain ⟨m, h1, h2⟩ := hV
  have hR := h1.1
  unfold lsS at h
  by_cases q : c % 6 < R ∧ M_X5_isFast s (nI (c % 6)) = 1
  · rw [if_pos q] at h
    by_cases q2 : M_X5_parted (if c < 6 then hS R kinds strengths moved s (c % 6) 1 else M_X5_afterLetGo s (nI (c % 6))) = M_X5_parted s
    · rw [if_pos q2] at h
      have hs' := Option.some.inj h
      rw [hs'] at q2
      rcases fast_b (s := s) (i := c % 6) (by omega) with ⟨f1, f2, f3⟩ | f3
      · -- what both sorts of steps keep
        have key : (∀ j, j < 6 → (bl s (24 + j) || bl s (30 + j)) = true → M_X5_strain s (nI j) = 0 → M_X5_strain s' (nI j) = 0 ∧ (bl s' (24 + j) || bl s' (30 + j)) = true) ∧ mu R needs forbids a s ≤ mu R needs forbids a s' + 1 := by
          by_cases q3 : c < 6
          · rw [if_pos q3] at hs'
            obtain ⟨-, m', pb', -, k2, k3, k4⟩ := hl_H h1 h2 q.1 f1 f2 (v := 1) (by omega) (by omega)
            rw [hs'] at k4
            obtain ⟨e1, e2, e3, e4, e5⟩ := k4
            refine ⟨fun j hj hl h0 => ⟨by rw [e4 j hj hl]; exact h0, by rw [bl_l e1 hj, bl_p q2 hj]; exact hl⟩, ?_⟩
            have hm : pc (forb R forbids a s) ≤ pc (forb R forbids a s') := pc_mono (fun j hj hb => by
              rw [forb_b hR a s (by omega)] at hb
              rw [forb_b hR a s' (by omega)]
              simp only [Bool.and_eq_true, Bool.not_eq_true', decide_eq_false_iff_not] at hb ⊢
              exact ⟨hb.1, e5 q2 j hj hb.2⟩)
            unfold mu
            split <;> split <;> omega
          · rw [if_neg q3] at hs'
            subst hs'
            have st' : ∀ j, j < 6 → M_X5_strain s (nI j) = 0 → M_X5_strain (M_X5_afterLetGo s (nI (c % 6))) (nI j) = 0 := fun j hj h0 => by
              by_cases e : j = c % 6
              · rw [e, lg_self s (by omega)]
              · rw [lg_other s (by omega) hj e, h0]
            refine ⟨fun j hj hl h0 => ⟨st' j hj h0, ?_⟩, ?_⟩
            · rw [bl_p q2 hj]
              have := st_lg s (i := c % 6) (k := 24 + j) (by omega) (by omega)
              rw [this]
              by_cases e : j = c % 6
              · rw [if_pos (by omega)]; rfl
              · rw [if_neg (by omega), if_neg (by omega)]; exact hl
            · have hm : pc (forb R forbids a s) ≤ pc (forb R forbids a (M_X5_afterLetGo s (nI (c % 6)))) + 1 := pc_mono1 (i := c % 6) (by omega) (fun j hj hji hb => by
                rw [forb_b hR a s (by omega)] at hb
                rw [forb_b hR a _ (by omega), lg_other s (by omega) hj hji]
                exact hb)
              have hl : lack R needs a (M_X5_afterLetGo s (nI (c % 6))) = 0 → lack R needs a s = 0 := fun hz => by
                rw [bx_0] at hz ⊢
                intro j hj
                have := hz j hj
                rw [lack_b hR a _ hj] at this ⊢
                by_cases w : j < 6
                · cases w2 : decide (M_X5_strain s (nI j) = 0)
                  · simp
                  · rw [decide_eq_true (st' j w (of_decide_eq_true w2))] at this
                    exact this
                · rw [decide_eq_false (show ¬ j < R by omega)]; simp
              unfold mu
              by_cases w : lack R needs a (M_X5_afterLetGo s (nI (c % 6))) = 0
              · rw [if_pos w, if_pos (hl w)]; omega
              · rw [if_neg w]; split <;> omega
        refine ⟨fun hz => ?_, key.2⟩
        rw [bx_0] at hz ⊢
        intro j hj
        by_cases w : j < 6
        · have := hz j hj
          rw [b_and, lack_b hR a _ hj, lost_b _ w] at this ⊢
          cases w2 : (bl s (24 + j) || bl s (30 + j))
          · simp
          · cases w3 : decide (M_X5_strain s (nI j) = 0)
            · simp
            · obtain ⟨z1, z2⟩ := key.1 j w w2 (of_decide_eq_true w3)
              rw [z2, decide_eq_true z1] at this
              exact this
        · rw [b_and, lack_b hR a _ hj, decide_eq_false (show ¬ j < R by omega)]; simp
      · rw [f3] at q; exact absurd q.2 (by decide)
    · rw [if_neg q2] at h; exact absurd h (by simp)
  · rw [if_neg q] at h; exact absurd h (by simp)
theorem far_C : ∀ (k : Nat) (s : Int64) (code a : Nat), pu_V R A kinds strengths moved needs forbids s → lsOk R kinds strengths moved needs forbids a k s code = true → lack R needs a s &&& lost s = 0 ∧ mu R needs forbids a s ≤ k := by
  intro k
  induction k with
  | zero =>
    intro s code a hV h
    have hR : R ≤ 6 := by obtain ⟨m, h1, -⟩ := hV; exact h1.1
    obtain ⟨e1, e2⟩ := far_0 hR (show law1 R needs forbids (tautF s) a = true from h)
    refine ⟨?_, by omega⟩
    rw [e1, bx_0]
    intro j hj
    rw [b_and, b_0, Bool.false_and]
  | succ k ih =>
    intro s code a hV h
    rw [lsOk] at h
    cases hs : lsS R kinds strengths moved s (code / 12 ^ k) with
    | none => rw [hs] at h; exact absurd h (by simp)
    | some s' =>
      rw [hs] at h
      obtain ⟨i1, i2⟩ := ih s' _ a (V_step hV hs) h
      obtain ⟨m1, m2⟩ := mu_step (a := a) hV hs
      exact ⟨m1 i1, by omega⟩
theorem tf_C (hV : pu_V R A kinds strengths moved needs forbids s) {a : Nat} (ha : a < A) {k : Nat} (hk : k < 100) : M_X3_isTooFar (nI R) (nI A) needs forbids (nI a) s (nI k) = some (if lack R needs a s &&& lost s = 0 ∧ mu R needs forbids a s ≤ k then 0 else 1) := by
  obtain ⟨m, h1, h2⟩ := hV
  have hR := h1.1
  have hA := h1.2.1
  unfold M_X3_isTooFar M_X3_isTooFar_b62
  rw [st_tE, Option.bind_some, rs_needed hA ha, Option.bind_some, rs_forbidden hA ha, Option.bind_some]
  show (if (lack R needs a s &&& lost s) = 0 then (if lack R needs a s = 0 then (if (M_J6_bitCount_0f7a4 (forb R forbids a s) + (0 : Int32)) ≤ nI k then some 0 else some 1) else (if (M_J6_bitCount_0f7a4 (forb R forbids a s) + (1 : Int32)) ≤ nI k then some 0 else some 1)) else some 1) = _
  obtain ⟨w, hw, ew⟩ := b_s64 (x := forb R forbids a s) (fun j h6 h7 => by rw [forb_b hR a s h7, decide_eq_false (by omega)]; simp)
  have eb : M_J6_bitCount_0f7a4 (forb R forbids a s) = nI (pc (forb R forbids a s)) := by rw [ew]; exact (bc_eq w hw).2
  have hp : pc (forb R forbids a s) ≤ 6 := by
    unfold pc
    have := Bool.toNat_le (bt (forb R forbids a s) 0); have := Bool.toNat_le (bt (forb R forbids a s) 1); have := Bool.toNat_le (bt (forb R forbids a s) 2)
    have := Bool.toNat_le (bt (forb R forbids a s) 3); have := Bool.toNat_le (bt (forb R forbids a s) 4); have := Bool.toNat_le (bt (forb R forbids a s) 5)
    omega
  rw [eb, nI_1, show nI (pc (forb R forbids a s)) + (0 : Int32) = nI (pc (forb R forbids a s)) from nI_add _ 0]
  unfold mu
  by_cases q1 : (lack R needs a s &&& lost s) = 0
  · rw [if_pos q1]
    by_cases q2 : lack R needs a s = 0
    · rw [if_pos q2, if_pos q2]
      by_cases q3 : pc (forb R forbids a s) ≤ k
      · rw [if_pos (pu_le (by omega) (by omega) q3), if_pos ⟨q1, by omega⟩]
      · rw [if_neg (pu_nle (by omega) (by omega) (by omega)), if_neg (fun z => q3 (by omega))]
    · rw [if_neg q2, if_neg q2]
      by_cases q3 : pc (forb R forbids a s) + 1 ≤ k
      · rw [if_pos (pu_le (by omega) (by omega) q3), if_pos ⟨q1, by omega⟩]
      · rw [if_neg (pu_nle (by omega) (by omega) (by omega)), if_neg (fun z => q3 (by omega))]
  · rw [if_neg q1, if_neg (fun z => q1 z.1)]
end
