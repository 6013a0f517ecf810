/-! PURE PART: chances in a blow -/
theorem pp_C {b e : Nat} (hb : b < 2 ^ 31) (he : e < 100) : M_X6_power (nI b) (nI e) = some (lN (b ^ e)) :=
  pu_lp (fun n k (x : Int64) => M_X6_power_b5 n (nI b) (nI e) x (nI k) = some (lN (b ^ e)))
    (fun k x => x = lN (b ^ k)) e (by omega)
    (fun n x hx => by rw [M_X6_power_b5, if_pos (pu_le (by omega) (by omega) (Nat.le_refl e)), hx])
    (fun n k x hk hx ih => by
      rw [M_X6_power_b5, if_neg (nI_ge hk (by omega)), nI_1]
      exact ih _ (by rw [hx, nI_l hb, lN_mul, Nat.pow_succ]))
    1 (by rw [Nat.pow_zero]; rfl)
theorem eu_0 {a : Nat} (ha : a < 2 ^ 63) (h : 0 < a) : ¬ lN a = 0 := fun q => by
  have := (pk_lEQ (b := 0) ha (by decide)).mp q
  omega
theorem eu_C : ∀ (f a b step n1 n2 : Nat), b < 2 ^ f → step + 2 * f + 1 < 200 → 2 * f + 1 < n1 → 2 * f + 1 < n2 → a < 2 ^ 40 → b < 2 ^ 40 → 0 < a + b → ∃ g, 0 < g ∧ g < 2 ^ 40 ∧ M_X6_greatestDivisor_b9 n1 (lN a) (lN b) (nI step) = some (lN g) ∧ ∀ u l x y, M_X7_fraction_b6 n2 u l x y (lN a) (lN b) = some (x / lN g, y / lN g) := by
  have stop : ∀ (a step n1 n2 : Nat), step < 200 → 0 < n1 → 0 < n2 → a < 2 ^ 40 → 0 < a → ∃ g, 0 < g ∧ g < 2 ^ 40 ∧ M_X6_greatestDivisor_b9 n1 (lN a) (lN 0) (nI step) = some (lN g) ∧ ∀ u l x y, M_X7_fraction_b6 n2 u l x y (lN a) (lN 0) = some (x / lN g, y / lN g) := by
    intro a step n1 n2 h1 h2 h3 h4 h5
    obtain ⟨n1, rfl⟩ : ∃ m, n1 = m + 1 := ⟨n1 - 1, by omega⟩
    obtain ⟨n2, rfl⟩ : ∃ m, n2 = m + 1 := ⟨n2 - 1, by omega⟩
    have ez : lg_cmp (lN 0) (0 : Int64) = 0 := (lg_cmp_eq _ _).mpr rfl
    have en := eu_0 (a := a) (by omega) h5
    refine ⟨a, h5, h4, ?_, fun u l x y => ?_⟩
    · rw [M_X6_greatestDivisor_b9, if_neg (gN 200 h1), if_pos ez]
    · rw [M_X7_fraction_b6, if_pos ez, if_pos en, if_pos en]
  have go : ∀ (a b step n1 n2 : Nat), step < 200 → a < 2 ^ 40 → b < 2 ^ 40 → 0 < b → M_X6_greatestDivisor_b9 (n1 + 1) (lN a) (lN b) (nI step) = M_X6_greatestDivisor_b9 n1 (lN b) (lN (a % b)) (nI (step + 1)) ∧ ∀ u l x y, M_X7_fraction_b6 (n2 + 1) u l x y (lN a) (lN b) = M_X7_fraction_b6 n2 u l x y (lN b) (lN (a % b)) := by
    intro a b step n1 n2 h1 h2 h3 h4
    have en := eu_0 (a := b) (by omega) h4
    have ez : ¬ lg_cmp (lN b) (0 : Int64) = 0 := fun q => en ((lg_cmp_eq _ _).mp q)
    have er : lN a - lN a / lN b * lN b = lN (a % b) := pk_lRem (by omega) h4 (by omega)
    refine ⟨?_, fun u l x y => ?_⟩
    · rw [M_X6_greatestDivisor_b9, if_neg (gN 200 h1), if_neg ez, if_pos en, er, nI_1]
    · rw [M_X7_fraction_b6, if_neg ez, if_pos en, er]
  intro f
  induction f with
  | zero =>
    intro a b step n1 n2 h1 h2 h3 h4 h5 h6 h7
    obtain rfl : b = 0 := by omega
    exact stop a step n1 n2 (by omega) (by omega) (by omega) h5 (by omega)
  | succ f ih =>
    intro a b step n1 n2 h1 h2 h3 h4 h5 h6 h7
    rcases Nat.eq_zero_or_pos b with hb | hb
    · subst hb
      exact stop a step n1 n2 (by omega) (by omega) (by omega) h5 (by omega)
    · obtain ⟨n1, rfl⟩ : ∃ m, n1 = m + 1 + 1 := ⟨n1 - 2, by omega⟩
      obtain ⟨n2, rfl⟩ : ∃ m, n2 = m + 1 + 1 := ⟨n2 - 2, by omega⟩
      obtain ⟨g1, g2⟩ := go a b step (n1 + 1) (n2 + 1) (by omega) h5 h6 hb
      rw [g1]
      simp only [g2]
      have hr := Nat.mod_lt a hb
      rcases Nat.eq_zero_or_pos (a % b) with hz | hz
      · rw [hz]
        exact stop b (step + 1) (n1 + 1) (n2 + 1) (by omega) (by omega) (by omega) h6 hb
      · obtain ⟨g3, g4⟩ := go b (a % b) (step + 1) n1 n2 (by omega) h6 (by omega) hz
        rw [g3]
        simp only [g4]
        have hr2 := Nat.mod_lt b hz
        have hq : 1 ≤ b / (a % b) := Nat.div_pos (by omega) hz
        have hm := Nat.div_add_mod b (a % b)
        have hm2 : a % b ≤ a % b * (b / (a % b)) := Nat.le_mul_of_pos_right _ hq
        have hp : 2 ^ (f + 1) = 2 * 2 ^ f := by rw [Nat.pow_succ]; omega
        exact ih (a % b) (b % (a % b)) (step + 1 + 1) n1 n2 (by omega) (by omega) (by omega) (by omega) (by omega) (by omega) (by omega)
def cN (x : Int32) : Nat → Nat
  | 0 => 0
  | i + 1 => cN x i + (bt x i).toNat
theorem cN_6 (x : Int32) : cN x 6 = pc x := by
  simp only [cN, pc]; omega
theorem cN_stop {x : Int32} {R : Nat} : ∀ d, (∀ j, R ≤ j → j < R + d → bt x j = false) → cN x (R + d) = cN x R := by
  intro d
  induction d with
  | zero => intro _; rfl
  | succ d ih =>
    intro h
    show cN x (R + d) + (bt x (R + d)).toNat = _
    rw [h (R + d) (by omega) (by omega), ih (fun j h1 h2 => h j h1 (by omega))]
    rfl
theorem cN_le {x y : Int32} (h : ∀ j, j < 32 → bt x j = true → bt y j = true) : ∀ i, i ≤ 6 → cN x i ≤ cN y i := by
  intro i
  induction i with
  | zero => intro _; exact Nat.le_refl 0
  | succ i ih =>
    intro hi
    have := ih (by omega)
    have h2 := h i (by omega)
    simp only [cN]
    cases h3 : bt x i
    · simp; omega
    · rw [h2 h3]; simp; omega
def pr (w x : Int32) (p : Nat) : Nat → Nat
  | 0 => 1
  | i + 1 => pr w x p i * (if bt w i then (if bt x i then p else 12 - p) else 1)
theorem pr_le {w x : Int32} {p : Nat} (hp : p ≤ 12) : ∀ i, pr w x p i ≤ 12 ^ i := by
  intro i
  induction i with
  | zero => exact Nat.le_refl 1
  | succ i ih =>
    simp only [pr, Nat.pow_succ]
    apply Nat.mul_le_mul ih
    split
    · split <;> omega
    · omega
theorem pr_eq {w x : Int32} {p : Nat} (h : ∀ j, j < 32 → bt x j = true → bt w j = true) : ∀ i, i ≤ 6 → pr w x p i = p ^ cN x i * (12 - p) ^ (cN w i - cN x i) := by
  intro i
  induction i with
  | zero => intro _; simp [pr, cN]
  | succ i ih =>
    intro hi
    have h1 := ih (by omega)
    have h2 := h i (by omega)
    have h3 := cN_le h i (by omega)
    simp only [pr, cN]
    rw [h1]
    cases h4 : bt x i
    · cases h5 : bt w i
      · simp
      · have e : cN w i + (true).toNat - (cN x i + (false).toNat) = (cN w i - cN x i) + 1 := by simp; omega
        rw [e, Nat.pow_succ]
        simp [Nat.mul_assoc]
    · rw [h2 h4]
      have e : cN w i + (true).toNat - (cN x i + (true).toNat) = cN w i - cN x i := by simp
      rw [e]
      simp [Nat.pow_succ, Nat.mul_assoc, Nat.mul_comm, Nat.mul_left_comm]
section
variable {R A D : Nat} {kinds strengths moved needs forbids now : Nat → Int32} {st : Nat → Int64}
theorem p_blow (h : pu_C R A kinds strengths moved needs forbids st D now) (up lo : Int64) (acts : Int32) {p : Nat} (hp : p ≤ 12) :
    ∃ up' lo', M_X6_blow st (nI D) (nI R) (nI A) needs forbids up lo acts (nI p) = some (1, up', lo') ∧ M_X7_goOdds now up lo acts (nI p) = some (up', lo') := by
  obtain ⟨h1, h2, h3, h4, h5⟩ := h
  have hR := h1.1
  have e0 := h1.2.2.1
  have hpw : 2 ^ R ≤ 64 := Nat.pow_le_pow_right (n := 2) (by decide) hR
  unfold M_X6_blow M_X7_goOdds M_X7_goOdds_b21 M_X2_allRopes
  rw [now_C h3, Option.bind_some, e0, h2.2.2.2.1]
  generalize hW : ((((1 : Int32) <<< (nI R &&& (31 : Int32))) - (1 : Int32)) &&& ((M_X5_parted (st D)) ^^^ (-1 : Int32))) = W
  have hWb : ∀ j, j < 32 → R ≤ j → bt W j = false := by
    intro j hj hRj
    rw [← hW, b_and, all_b R (by omega) j hj, decide_eq_false (by omega), Bool.false_and]
  obtain ⟨w, hw, eW⟩ := b_s64 (x := W) (fun j h6 h7 => hWb j h7 (by omega))
  have ecW : M_J6_bitCount_0f7a4 W = nI (pc W) := by rw [eW]; exact (bc_eq w hw).2
  have ebW : M_X7_bits W = some (nI (pc W)) := by rw [eW, (bc_eq w hw).1, (bc_eq w hw).2]
  have hcW : pc W ≤ 6 := by
    unfold pc
    have := Bool.toNat_le (bt W 0); have := Bool.toNat_le (bt W 1); have := Bool.toNat_le (bt W 2)
    have := Bool.toNat_le (bt W 3); have := Bool.toNat_le (bt W 4); have := Bool.toNat_le (bt W 5)
    omega
  have h12 : 12 ^ pc W ≤ 12 ^ 6 := Nat.pow_le_pow_right (by decide) hcW
  have h12p : 0 < 12 ^ pc W := Nat.pow_pos (by decide)
  have hsub12 : (12 : Int32) - nI p = nI (12 - p) := pk_sub (a := 12) hp
  rw [ecW]
  -- the reference's first loop
  have L1 : M_X7_goOdds_b30 now x_fuel up lo acts (nI p) W 0 1 0 = M_X7_goOdds_b56 now x_fuel up lo acts (nI p) W 0 (lN (12 ^ pc W)) 0 :=
    pu_lp (fun n k (x : Int64) => M_X7_goOdds_b30 now n up lo acts (nI p) W 0 x (nI k) = M_X7_goOdds_b56 now x_fuel up lo acts (nI p) W 0 (lN (12 ^ pc W)) 0)
      (fun k x => x = lN (12 ^ k)) (pc W) (by omega)
      (fun n x hx => by rw [M_X7_goOdds_b30, ebW, Option.bind_some, if_pos (pu_le (by omega) (by omega) (Nat.le_refl _)), hx])
      (fun n k x hk hx ih => by
        rw [M_X7_goOdds_b30, ebW, Option.bind_some, if_neg (nI_ge hk (by omega)), nI_1]
        exact ih _ (by rw [hx, show (12 : Int64) = lN 12 from rfl, lN_mul, Nat.pow_succ]))
      1 rfl
  rw [L1]
  -- the sets that can fall and those that cannot
  have tail : ∀ (n : Nat) (S : Int64), 100 < n → M_X6_blow_b37 st (nI D) (nI R) (nI A) needs forbids n up lo acts (nI p) (st D) W (nI (pc W)) S (nI (2 ^ R)) = (M_X6_tellPart up lo S (lN (12 ^ pc W))).bind fun r4 => some (r4.1, r4.2.1, r4.2.2) := by
    intro n S hn
    exact pu_loop (fun n k (x : Int64) => 2 ^ R ≤ k → M_X6_blow_b37 st (nI D) (nI R) (nI A) needs forbids n up lo acts (nI p) (st D) W (nI (pc W)) x (nI k) = (M_X6_tellPart up lo x (lN (12 ^ pc W))).bind fun r4 => some (r4.1, r4.2.1, r4.2.2))
      (fun k x => True) 64
      (fun n x _ _ => by
        rw [M_X6_blow_b37, if_pos (show (64 : Int32) ≤ nI 64 by decide), show (12 : Int32) = nI 12 from rfl, pp_C (by omega) (by omega), Option.bind_some])
      (fun n k x hk _ ih hk2 => by
        rw [M_X6_blow_b37, if_neg (gN 64 hk), if_neg (by rw [← hW]; exact cf_hi hR _ hk hk2)]
        unfold M_X6_blow_b109
        rw [nI_1]
        exact ih x trivial (by omega))
      (64 - 2 ^ R) n (2 ^ R) S (Nat.add_sub_cancel' hpw) (Nat.lt_of_le_of_lt (Nat.sub_le _ _) (by omega)) trivial (Nat.le_refl _)
  have main : ∃ up' lo', M_X6_blow_b37 st (nI D) (nI R) (nI A) needs forbids x_fuel up lo acts (nI p) (st D) W (nI (pc W)) 0 0 = some (1, up', lo') ∧ M_X7_goOdds_b56 now x_fuel up lo acts (nI p) W 0 (lN (12 ^ pc W)) 0 = some (up', lo') :=
    pu_loop (fun n k (x : Int64) => n + k = 1000000 → ∃ up' lo', M_X6_blow_b37 st (nI D) (nI R) (nI A) needs forbids n up lo acts (nI p) (st D) W (nI (pc W)) x (nI k) = some (1, up', lo') ∧ M_X7_goOdds_b56 now n up lo acts (nI p) W x (lN (12 ^ pc W)) (nI k) = some (up', lo'))
      (fun k x => ∃ S, S ≤ k * 17915904 ∧ x = lN S) (2 ^ R)
      (fun n x ⟨S, hS, hx⟩ hn => by
        have hS2 : S ≤ 64 * 17915904 := Nat.le_trans hS (Nat.mul_le_mul_right _ hpw)
        obtain ⟨g, g1, g2, g3, g4⟩ := eu_C 22 S (12 ^ pc W) 0 x_fuel x_fuel (by omega) (by omega) (by unfold x_fuel; omega) (by unfold x_fuel; omega) (by omega) (by omega) (by omega)
        have en := eu_0 (a := g) (by omega) g1
        have el : ¬ lg_cmp (lN g) (0 : Int64) ≤ 0 := fun q => by
          have := (pk_lLE (a := g) (b := 0) (by omega) (by decide)).mp ((lg_cmp_le _ _).mp q)
          omega
        rw [tail (n + 1) x (by omega), M_X7_goOdds_b56, e0, pw_b R (by omega), if_pos (pu_le (by omega) (by omega) (Nat.le_refl _)), hx]
        unfold M_X6_tellPart M_X6_greatestDivisor M_X7_fraction
        rw [show M_X6_greatestDivisor_b9 x_fuel (lN S) (lN (12 ^ pc W)) 0 = some (lN g) from g3, g4, Option.bind_some, if_neg el, if_pos en, if_pos en]
        exact ⟨_, _, rfl, rfl⟩)
      (fun n k x hk ⟨S, hS, hx⟩ ih hn => by
        have hk64 : k < 64 := by omega
        obtain ⟨l1, l2, v, hv, l3⟩ := lw_cut h1 h2 (nI k)
        have hla : ∃ u, u < 64 ∧ lawF R A needs forbids (tautF (st D) &&& (nI k ^^^ (-1))) &&& acts = nI u := b_s64 (fun j h6 h7 => by
          rw [l3, b_and, b_nI _ h7, Nat.testBit_lt_two_pow (Nat.lt_of_lt_of_le hv (Nat.pow_le_pow_right (n := 2) (by decide) h6)), Bool.false_and])
        obtain ⟨u, hu, eu⟩ := hla
        have hcu : pc (nI u) ≤ 6 := by
          unfold pc
          have := Bool.toNat_le (bt (nI u) 0); have := Bool.toNat_le (bt (nI u) 1); have := Bool.toNat_le (bt (nI u) 2)
          have := Bool.toNat_le (bt (nI u) 3); have := Bool.toNat_le (bt (nI u) 4); have := Bool.toNat_le (bt (nI u) 5)
          omega
        -- the reference's inner loop
        have L2 : ∀ (c : Nat), M_X7_goOdds_b83 now (fun (above' : Int64) (below' : Int64) (x1' : Int32) (x2' : Int32) (x3' : Int32) (x4' : Int64) (x6' : Int64) (x8' : Int32) => M_X7_goOdds_b56 now n above' below' x1' x2' x3' x4' x6' x8') up lo acts (nI p) W x (lN (12 ^ pc W)) (nI k) (lN c) = M_X7_goOdds_b56 now n up lo acts (nI p) W (x + (lN (c * pr W (nI k) p R) * lN (pc (nI u)))) (lN (12 ^ pc W)) (nI (k + 1)) := by
          intro c
          unfold M_X7_goOdds_b83
          exact pu_lp (fun n' i (y : Int64) => M_X7_goOdds_b88 now (fun (above' : Int64) (below' : Int64) (x1' : Int32) (x2' : Int32) (x3' : Int32) (x4' : Int64) (x6' : Int64) (x8' : Int32) => M_X7_goOdds_b56 now n above' below' x1' x2' x3' x4' x6' x8') n' up lo acts (nI p) W x (lN (12 ^ pc W)) (nI k) y (nI i) = M_X7_goOdds_b56 now n up lo acts (nI p) W (x + (lN (c * pr W (nI k) p R) * lN (pc (nI u)))) (lN (12 ^ pc W)) (nI (k + 1)))
            (fun i y => y = lN (c * pr W (nI k) p i)) R (by omega)
            (fun n' y hy => by
              rw [M_X7_goOdds_b88, e0, if_pos (pu_le (by omega) (by omega) (Nat.le_refl R)), tt_eq h1 h2, Option.bind_some, l2, Option.bind_some, eu, (bc_eq u hu).1, Option.bind_some, (bc_eq u hu).2, nI_l (by omega), hy, nI_1])
            (fun n' i y hi hy ih2 => by
              rw [M_X7_goOdds_b88, e0, if_neg (nI_ge hi (by omega)), ha_b _ (by omega), ha_b _ (by omega), hsub12, nI_l (show 12 - p < 2 ^ 31 by omega), nI_l (show p < 2 ^ 31 by omega)]
              unfold M_X7_goOdds_b134
              have er : ∀ z : Nat, y * lN z = lN (c * pr W (nI k) p i * z) := fun z => by rw [hy, lN_mul]
              have e1 : y * (1 : Int64) = lN (c * pr W (nI k) p i * 1) := er 1
              rw [nI_1, er, er, e1]
              cases q1 : bt W i
              · simp only [Bool.false_eq_true, if_false, if_pos p00]
                exact ih2 _ (by simp only [pr, q1, Bool.false_eq_true, if_false, Nat.mul_assoc])
              · cases q2 : bt (nI k) i
                · simp only [Bool.false_eq_true, if_false, if_true, if_pos p00, if_neg n10]
                  exact ih2 _ (by simp only [pr, q1, q2, Bool.false_eq_true, if_false, if_true, Nat.mul_assoc])
                · simp only [if_true, if_neg n10]
                  exact ih2 _ (by simp only [pr, q1, q2, if_true, Nat.mul_assoc]))
            (lN c) (by simp only [pr, Nat.mul_one])
        rw [M_X6_blow_b37, if_neg (gN 64 hk64), M_X7_goOdds_b56, e0, pw_b R (by omega), if_neg (nI_ge hk (by omega)), (bc_eq k hk64).2]
        by_cases c1 : (nI k &&& (W ^^^ (-1 : Int32))) = 0
        · have hsub : ∀ j, j < 32 → bt (nI k) j = true → bt W j = true := by
            intro j hj hb
            have := (bx_0.mp c1) j hj
            rw [b_and, b_not _ hj, hb] at this
            simpa using this
          have hle := cN_le hsub 6 (by omega)
          rw [cN_6, cN_6] at hle
          have hcst : cN W 6 = cN W R := by
            have := cN_stop (x := W) (R := R) (6 - R) (fun j h6 h7 => hWb j (by omega) h6)
            rwa [Nat.add_sub_cancel' hR] at this
          have hcsk : cN (nI k) 6 = cN (nI k) R := by
            have := cN_stop (x := nI k) (R := R) (6 - R) (fun j h6 h7 => by
              cases hb : bt (nI k) j
              · rfl
              · have := hsub j (by omega) hb
                rw [hWb j (by omega) h6] at this
                exact absurd this (by decide))
            rwa [Nat.add_sub_cancel' hR] at this
          have hpr : pr W (nI k) p R = p ^ pc (nI k) * (12 - p) ^ (pc W - pc (nI k)) := by
            rw [pr_eq hsub R hR, ← hcst, ← hcsk, cN_6, cN_6]
          have hprle : pr W (nI k) p R ≤ 12 ^ 6 := Nat.le_trans (pr_le hp R) (Nat.pow_le_pow_right (by decide) hR)
          rw [if_pos c1, if_pos c1, pp_C (by omega) (by omega), Option.bind_some, hsub12, pk_sub hle, pp_C (by omega) (by omega), Option.bind_some, st_apE, Option.bind_some, l1, Option.bind_some, eu, (bc_eq u hu).2, nI_l (show pc (nI u) < 2 ^ 31 by omega), lN_mul, ← hpr, show (1 : Int64) = lN 1 from rfl, L2 1, Nat.one_mul]
          unfold M_X6_blow_b109
          rw [nI_1]
          refine ih _ ⟨S + pr W (nI k) p R * pc (nI u), ?_, by rw [hx, lN_mul, lN_add]⟩ (by omega)
          have := Nat.mul_le_mul hprle hcu
          omega
        · rw [if_neg c1, if_neg c1, show (0 : Int64) = lN 0 from rfl, L2 0, Nat.zero_mul]
          unfold M_X6_blow_b109
          have ez : x + lN 0 = x := by rw [hx, lN_add]; rfl
          rw [nI_1, lN_mul, Nat.zero_mul, ez]
          exact ih x ⟨S, Nat.le_trans hS (Nat.mul_le_mul_right _ (Nat.le_succ k)), hx⟩ (by omega))
      (2 ^ R) x_fuel 0 0 (by omega) (by unfold x_fuel; omega) ⟨0, by omega, rfl⟩ (by unfold x_fuel; omega)
  exact main
theorem p_odds (h : pu_C R A kinds strengths moved needs forbids st D now) (up lo : Int64) (x1 x2 : Int32) :
    ∃ v up' lo', M_X6_odds st (nI D) (nI R) (nI A) needs forbids up lo x1 x2 = some (v, up', lo') ∧ M_X7_odds now up lo x1 x2 = some (v, up', lo') := by
  have hA := h.1.2.1
  have e1 := h.1.2.2.2.1
  unfold M_X6_odds M_X7_odds M_X2_isAct
  rw [e1]
  rcases pu_inS (z := A) (by omega) x1 with ⟨a, ha, rfl, e⟩ | ⟨e', e⟩
  · rw [e, if_neg n10, if_neg (nI_pos (by omega)), if_neg (nI_ge ha (by omega)), if_neg (gN 4 (by omega)), if_neg n10]
    rcases in_0N 12 (by decide) 12 (by decide) x2 with ⟨p, hp, rfl, e2⟩ | ⟨q, e2⟩
    · obtain ⟨up', lo', k1, k2⟩ := p_blow h up lo ((1 : Int32) <<< (nI a &&& (31 : Int32))) hp
      rw [e2, if_neg n10, if_neg (nI_pos (by omega)), if_pos (aL 12 hp), k1, k2]
      exact ⟨_, _, _, rfl, rfl⟩
    · rw [e2, if_pos p00]
      refine ⟨-1, up, lo, ?_, rfl⟩
      by_cases q0 : x2 < 0
      · rw [if_pos q0]
      · rw [if_neg q0, if_neg (show ¬ x2 ≤ (12 : Int32) from q.resolve_left q0)]
  · rw [e, if_pos p00]
    refine ⟨-1, up, lo, ?_, rfl⟩
    by_cases q0 : x1 < 0
    · rw [if_pos q0]; rfl
    · rw [if_neg q0, if_pos (e'.resolve_left q0)]; rfl
theorem p_mid (h : pu_C R A kinds strengths moved needs forbids st D now) (up lo : Int64) (x1 : Int32) :
    ∃ v up' lo', M_X6_mid st (nI D) (nI R) (nI A) needs forbids up lo x1 = some (v, up', lo') ∧ M_X7_mid now up lo x1 = some (v, up', lo') := by
  have hR := h.1.1
  have e0 := h.1.2.2.1
  unfold M_X6_mid M_X7_mid M_X2_isEmpty
  rw [e0]
  rcases in_0N 12 (by decide) 12 (by decide) x1 with ⟨p, hp, rfl, e2⟩ | ⟨q, e2⟩
  · rw [e2, if_neg n10, if_neg (nI_pos (by omega)), if_pos (aL 12 hp)]
    by_cases q : R = 0
    · subst q; exact ⟨_, _, _, rfl, rfl⟩
    · obtain ⟨up', lo', k1, k2⟩ := p_blow h up lo 15 hp
      rw [if_neg (eN 0 q (by omega)), if_neg (eN 0 q (by omega)), if_pos p00, k1, k2]
      exact ⟨_, _, _, rfl, rfl⟩
  · rw [e2, if_pos p00]
    refine ⟨-1, up, lo, ?_, rfl⟩
    by_cases q0 : x1 < 0
    · rw [if_pos q0]
    · rw [if_neg q0, if_neg (show ¬ x1 ≤ (12 : Int32) from q.resolve_left q0)]
end
