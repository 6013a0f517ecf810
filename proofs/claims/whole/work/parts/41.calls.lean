/-! PURE PART: the court's plain calls -/
section
variable {R A D : Nat} {kinds strengths moved needs forbids now : Nat → Int32} {st : Nat → Int64}
theorem in_19 (x : Int32) : (∃ v, 0 < v ∧ v < 10 ∧ x = nI v ∧ M_X7_in x.toInt64 (1 : Int64) (9 : Int64) = 1) ∨ ((x < 1 ∨ ¬ x ≤ 9) ∧ M_X7_in x.toInt64 (1 : Int64) (9 : Int64) = 0) := by
  have e : M_X7_in x.toInt64 (1 : Int64) (9 : Int64) = if (x < 1 ∨ (9 : Int32) < x) then 0 else 1 := pu_in1 x 1 9
  rw [e]
  rcases pu_nng x with h | ⟨v, hv, rfl⟩
  · have : x < 1 := by
      rw [Int32.lt_iff_toInt_lt] at h ⊢
      have a : (0 : Int32).toInt = 0 := by decide
      have b : (1 : Int32).toInt = 1 := by decide
      omega
    exact .inr ⟨.inl this, if_pos (.inl this)⟩
  · rcases Nat.eq_zero_or_pos v with q | q
    · subst q; exact .inr ⟨.inl (by decide), by decide⟩
    · by_cases q2 : v < 10
      · refine .inl ⟨v, q, q2, rfl, if_neg ?_⟩
        rintro (w | w)
        · exact absurd w (tN 1 (by omega) hv)
        · exact absurd w (rN 9 (by omega))
      · exact .inr ⟨.inr (aN 9 (by omega) hv), if_pos (.inr (rL 9 (by omega) hv))⟩
theorem fast_b {s : Int64} {i : Nat} (hi : i < 6) : (bl s (24 + i) = false ∧ bl s (30 + i) = false ∧ M_X5_isFast s (nI i) = 1) ∨ M_X5_isFast s (nI i) = 0 := by
  rw [st_isFast s hi]
  cases bl s (24 + i) <;> cases bl s (30 + i) <;> simp
theorem is_0 {s : Int64} (h : pu_CD R s now) {i : Nat} (hi : i < 6) : M_X7_is now (nI i) 0 = M_X5_isFast s (nI i) := by
  obtain ⟨h1, h2, h3, h4, h5⟩ := h
  unfold M_X7_is M_X7_is_b46
  rw [h3, h4, ha_b _ (by omega), ha_b _ (by omega), st_letGo s (by omega), st_parted s (by omega), decide_eq_true hi, Bool.true_and, Bool.true_and, st_isFast s hi]
  cases bl s (24 + i) <;> cases bl s (30 + i) <;> rfl
theorem is_1 {s : Int64} (h : pu_CD R s now) {i : Nat} (hi : i < 6) : M_X7_is now (nI i) 1 = if bl s (30 + i) then 0 else if bl s (24 + i) then 1 else 0 := by
  obtain ⟨h1, h2, h3, h4, h5⟩ := h
  unfold M_X7_is M_X7_is_b46
  rw [h3, h4, ha_b _ (by omega), ha_b _ (by omega), st_letGo s (by omega), st_parted s (by omega), decide_eq_true hi, Bool.true_and, Bool.true_and]
  cases bl s (24 + i) <;> cases bl s (30 + i) <;> rfl
theorem is_2 {s : Int64} (h : pu_CD R s now) {i : Nat} (hi : i < 6) : M_X7_is now (nI i) 2 = if bl s (30 + i) then 1 else 0 := by
  obtain ⟨h1, h2, h3, h4, h5⟩ := h
  unfold M_X7_is
  rw [h4, ha_b _ (by omega), st_parted s (by omega), decide_eq_true hi, Bool.true_and]
  rfl
theorem bits_l (s : Int64) : M_X7_bits (M_X5_letGo s) = some (M_J6_bitCount_0f7a4 (M_X5_letGo s)) := by
  obtain ⟨n, h, e⟩ := st_lN s
  rw [e]; exact (bc_eq n h).1
theorem bits_p (s : Int64) : M_X7_bits (M_X5_parted s) = some (M_J6_bitCount_0f7a4 (M_X5_parted s)) := by
  obtain ⟨n, h, e⟩ := st_pN s
  rw [e]; exact (bc_eq n h).1
/-- what a deed leaves: the court, or nothing is done -/
def pu_D (R A : Nat) (kinds strengths moved needs forbids : Nat → Int32) (x : Option (Int32 × (Nat → Int64) × Int32)) (y : Option (Int32 × (Nat → Int32) × Int32)) : Prop :=
  ∃ v st' D' now' pb', x = some (v, st', nI D') ∧ y = some (v, now', pb') ∧ pu_C R A kinds strengths moved needs forbids st' D' now'
theorem p_haul (h : pu_C R A kinds strengths moved needs forbids st D now) (pb rch x1 x2 : Int32) :
    ∃ v st' D' now' pb' rch', M_X6_haul (nI R) kinds strengths moved st (nI D) rch x1 x2 = some (v, st', nI D', rch') ∧ M_X7_haul now pb x1 x2 = some (v, now', pb') ∧ pu_C R A kinds strengths moved needs forbids st' D' now' := by
  obtain ⟨h1, h2, h3, h4, h5⟩ := id h
  have hR := h1.1
  unfold M_X6_haul M_X7_haul M_X6_refusalOfHaul M_X6_refusalOfFast
  rcases rs_ropes h1 x1 with ⟨i, hi, rfl, e1, e2⟩ | ⟨e1, e2⟩
  · rw [e1, e2, if_neg n10, if_neg n10, now_C h3]
    rcases in_19 x2 with ⟨n, hn0, hn, rfl, e3⟩ | ⟨e3, e4⟩
    · rw [e3, if_neg n10, if_neg (tN 1 (by omega) (by omega)), if_pos (aL 9 (by omega)), Option.bind_some]
      unfold M_X7_doesAt
      rw [is_0 h2 (by omega)]
      rcases fast_b (s := st D) (i := i) (by omega) with ⟨b1, b2, e5⟩ | e5
      · rw [e5, if_neg n10, if_neg n10, h4]
        simp only [Option.bind_some, if_true]
        obtain ⟨r1, m', pb', r2, r3, r4, r5⟩ := hl_H h1 h2 hi b1 b2 hn0 (by omega)
        rw [r1 rch, Option.bind_some, fp_eq hR r5]
        unfold M_X6_haul_b55
        by_cases hD : D = 40
        · subst hD
          rw [done_F, if_pos (show nI 40 = 40 from rfl)]
          refine ⟨-2, st, 40, now, pb, hC R kinds strengths moved (st 40) i n, ?_, ?_, h⟩
          · by_cases q : pb' = -9
            · rw [if_pos q]; rfl
            · rw [if_neg q]; rfl
          · rfl
        · rw [done_C (by omega), done_C (by omega), if_neg (eN 40 (by omega) (by omega))]
          have hstep := step_haul (R := R) (A := A) (kinds := kinds) (strengths := strengths) (moved := moved) (needs := needs) (forbids := forbids) (s := st D) hi b1 b2 hn0 hn
          obtain ⟨now', pb2, k1, k2, k3⟩ := does_C h (by omega) hstep pb
          have ec : (((100 : Int32) + ((10 : Int32) * nI n)) + nI i) = nI (100 + 10 * n + i) := by
            rw [show (10 : Int32) = nI 10 from rfl, pk_mul, show (100 : Int32) = nI 100 from rfl, nI_add, nI_add]
          rw [ec, k1]
          have ep : pb2 = pb' := by rw [← fp_eq hR k3, fp_eq hR r5]
          subst ep
          by_cases q : pb2 = -9
          · refine ⟨0, _, D + 1, now', pb2, hC R kinds strengths moved (st D) i n, ?_, ?_, k2⟩
            · rw [if_pos q]; rfl
            · simp [q]
          · refine ⟨1, _, D + 1, now', pb2, hC R kinds strengths moved (st D) i n, ?_, ?_, k2⟩
            · rw [if_neg q]; rfl
            · simp [q]
      · rw [e5, if_pos rfl, if_pos rfl]
        exact ⟨-4, st, D, now, pb, rch, rfl, rfl, h⟩
    · rw [e4, if_pos rfl]
      refine ⟨-1, st, D, now, pb, rch, ?_, rfl, h⟩
      rcases e3 with q | q
      · rw [if_pos q]; rfl
      · rw [if_neg q]
        by_cases q2 : x2 < 1
        · rw [if_pos q2]; rfl
        · rw [if_neg q2]; rfl
  · rw [e1, e2, if_pos rfl, if_pos rfl]
    refine ⟨-1, st, D, now, pb, rch, ?_, rfl, h⟩
    by_cases q : x2 < 1
    · rw [if_pos q]; rfl
    · rw [if_neg q]
      by_cases q2 : x2 ≤ 9
      · rw [if_pos q2]; rfl
      · rw [if_neg q2]; rfl
theorem p_slack (h : pu_C R A kinds strengths moved needs forbids st D now) (pb x1 : Int32) : pu_D R A kinds strengths moved needs forbids (M_X6_slack (nI R) st (nI D) x1) (M_X7_slack now pb x1) := by
  obtain ⟨h1, h2, h3, h4, h5⟩ := id h
  have hR := h1.1
  unfold pu_D M_X6_slack M_X7_slack M_X6_refusalOfFast
  rcases rs_ropes h1 x1 with ⟨i, hi, rfl, e1, e2⟩ | ⟨e1, e2⟩
  · rw [e1, e2, if_neg n10, if_neg n10, now_C h3, Option.bind_some, if_pos (iO 76 (by omega)), cO 76 (by omega), h2.1 i hi]
    unfold M_X7_doesAt
    rw [is_0 h2 (by omega)]
    rcases fast_b (s := st D) (i := i) (by omega) with ⟨b1, b2, e5⟩ | e5
    · rw [e5, if_neg n10, if_neg n10, h4]
      simp only [Option.bind_some, if_true]
      by_cases hD : D = 40
      · subst hD
        rw [done_F, if_pos (show nI 40 = 40 from rfl)]
        exact ⟨-2, st, 40, now, pb, rfl, rfl, h⟩
      · rw [done_C (by omega), if_neg (eN 40 (by omega) (by omega)), show ((200 : Int32) + nI i) = nI (200 + i) from nI_add 200 i]
        obtain ⟨now', pb2, k1, k2, k3⟩ := does_C h (by omega) (step_slack hR hi) pb
        rw [k1]
        exact ⟨_, _, _, now', pb2, rfl, rfl, k2⟩
    · rw [e5, if_pos rfl, if_pos rfl]
      exact ⟨-4, st, D, now, pb, rfl, rfl, h⟩
  · rw [e1, e2, if_pos rfl, if_pos rfl]
    exact ⟨-1, st, D, now, pb, rfl, rfl, h⟩
theorem p_belay (h : pu_C R A kinds strengths moved needs forbids st D now) (pb x1 : Int32) : pu_D R A kinds strengths moved needs forbids (M_X6_belay (nI R) st (nI D) x1) (M_X7_belay now pb x1) := by
  obtain ⟨h1, h2, h3, h4, h5⟩ := id h
  have hR := h1.1
  unfold pu_D M_X6_belay M_X7_belay
  rcases rs_ropes h1 x1 with ⟨i, hi, rfl, e1, e2⟩ | ⟨e1, e2⟩
  · rw [e1, e2, if_neg n10, if_neg n10, now_C h3, Option.bind_some]
    unfold M_X7_doesAt
    rw [is_1 h2 (by omega), st_isParted _ (by omega), st_isLetGo _ (by omega)]
    cases q1 : bl (st D) (30 + i)
    · cases q2 : bl (st D) (24 + i)
      · exact ⟨-4, st, D, now, pb, rfl, rfl, h⟩
      · simp only [Bool.false_eq_true, if_false, if_true, show ¬ (1 : Int32) = 0 by decide, h4]
        by_cases hD : D = 40
        · subst hD
          rw [done_F, if_pos (show nI 40 = 40 from rfl)]
          exact ⟨-2, st, 40, now, pb, rfl, rfl, h⟩
        · rw [done_C (by omega), if_neg (eN 40 (by omega) (by omega)), show ((300 : Int32) + nI i) = nI (300 + i) from nI_add 300 i]
          obtain ⟨now', pb2, k1, k2, k3⟩ := does_C h (by omega) (step_belay hR hi) pb
          have e82 := k2.2.1.2.2.1
          rw [pk_uLs] at e82
          rw [k1]
          simp only [Option.bind_some, if_true]
          rw [e82, bits_l]
          exact ⟨_, _, _, now', pb2, rfl, rfl, k2⟩
    · exact ⟨-4, st, D, now, pb, rfl, rfl, h⟩
  · rw [e1, e2, if_pos rfl, if_pos rfl]
    exact ⟨-1, st, D, now, pb, rfl, rfl, h⟩
theorem p_cut (h : pu_C R A kinds strengths moved needs forbids st D now) (pb x1 : Int32) : pu_D R A kinds strengths moved needs forbids (M_X6_cut (nI R) st (nI D) x1) (M_X7_cut now pb x1) := by
  obtain ⟨h1, h2, h3, h4, h5⟩ := id h
  have hR := h1.1
  unfold pu_D M_X6_cut M_X7_cut
  rcases rs_ropes h1 x1 with ⟨i, hi, rfl, e1, e2⟩ | ⟨e1, e2⟩
  · rw [e1, e2, if_neg n10, if_neg n10, now_C h3, Option.bind_some, st_isParted _ (by omega), h2.2.2.2.1, ha_b _ (by omega), st_parted _ (by omega), decide_eq_true (by omega : i < 6), Bool.true_and, h4]
    cases q1 : bl (st D) (30 + i)
    · simp only [Bool.false_eq_true, if_false, if_true, st_apE, Option.bind_some]
      by_cases hD : D = 40
      · subst hD
        rw [done_F, if_pos (show nI 40 = 40 from rfl)]
        exact ⟨-2, st, 40, now, pb, rfl, rfl, h⟩
      · rw [done_C (by omega), if_neg (eN 40 (by omega) (by omega)), show ((400 : Int32) + nI i) = nI (400 + i) from nI_add 400 i]
        obtain ⟨now', pb2, k1, k2, k3⟩ := does_C h (by omega) (step_cut hR hi) pb
        have e83 := k2.2.1.2.2.2.1
        rw [pk_uLs] at e83
        rw [k1]
        simp only [Option.bind_some]
        rw [e83, bits_p]
        exact ⟨_, _, _, now', pb2, rfl, rfl, k2⟩
    · exact ⟨-4, st, D, now, pb, rfl, rfl, h⟩
  · rw [e1, e2, if_pos rfl, if_pos rfl]
    exact ⟨-1, st, D, now, pb, rfl, rfl, h⟩
theorem p_splice (h : pu_C R A kinds strengths moved needs forbids st D now) (pb x1 : Int32) : pu_D R A kinds strengths moved needs forbids (M_X6_splice (nI R) st (nI D) x1) (M_X7_splice now pb x1) := by
  obtain ⟨h1, h2, h3, h4, h5⟩ := id h
  have hR := h1.1
  unfold pu_D M_X6_splice M_X7_splice
  rcases rs_ropes h1 x1 with ⟨i, hi, rfl, e1, e2⟩ | ⟨e1, e2⟩
  · rw [e1, e2, if_neg n10, if_neg n10, now_C h3, Option.bind_some]
    unfold M_X7_doesAt
    rw [is_2 h2 (by omega), st_isParted _ (by omega)]
    cases q1 : bl (st D) (30 + i)
    · exact ⟨-4, st, D, now, pb, rfl, rfl, h⟩
    · simp only [if_true, show ¬ (1 : Int32) = 0 by decide, if_false, h4]
      by_cases hD : D = 40
      · subst hD
        rw [done_F, if_pos (show nI 40 = 40 from rfl)]
        exact ⟨-2, st, 40, now, pb, rfl, rfl, h⟩
      · rw [done_C (by omega), if_neg (eN 40 (by omega) (by omega)), show ((500 : Int32) + nI i) = nI (500 + i) from nI_add 500 i]
        obtain ⟨now', pb2, k1, k2, k3⟩ := does_C h (by omega) (step_splice hR hi) pb
        have e83 := k2.2.1.2.2.2.1
        rw [pk_uLs] at e83
        rw [k1]
        simp only [Option.bind_some, if_true]
        rw [e83, bits_p]
        exact ⟨_, _, _, now', pb2, rfl, rfl, k2⟩
  · rw [e1, e2, if_pos rfl, if_pos rfl]
    exact ⟨-1, st, D, now, pb, rfl, rfl, h⟩
theorem p_frost (h : pu_C R A kinds strengths moved needs forbids st D now) (pb x1 : Int32) : pu_D R A kinds strengths moved needs forbids (M_X6_frost (nI R) st (nI D) x1) (M_X7_frost now pb x1) := by
  obtain ⟨h1, h2, h3, h4, h5⟩ := id h
  have hR := h1.1
  have e : M_X7_in x1.toInt64 (0 : Int64) (1 : Int64) = if (x1 < 0 ∨ (1 : Int32) < x1) then 0 else 1 := pu_in1 x1 0 1
  unfold pu_D M_X6_frost M_X7_frost
  rw [e]
  have key : ∀ v, v < 2 → ∃ w st' D' now' pb', M_X6_frost_b11 (nI R) st (nI D) (nI v) = some (w, st', nI D') ∧ (if now 0 = 0 then some (-4, now, pb) else if now 84 = nI v then some (-4, now, pb) else if now 35 = 40 then some (-2, now, pb) else (M_X7_does now pb ((600 : Int32) + nI v)).bind fun r5 => some (nI v, r5.1, r5.2)) = some (w, now', pb') ∧ pu_C R A kinds strengths moved needs forbids st' D' now' := by
    intro v hv
    unfold M_X6_frost_b11 M_X2_isEmpty
    rw [now_C h3, Option.bind_some, h1.2.2.1, h2.2.2.2.2, h4]
    by_cases q : R = 0
    · subst q
      exact ⟨-4, st, D, now, pb, rfl, rfl, h⟩
    · rw [if_neg (eN 0 q (by omega)), if_neg (eN 0 q (by omega)), if_pos rfl]
      by_cases q2 : M_X5_frostIn (st D) = nI v
      · rw [if_pos q2, if_pos q2]
        exact ⟨-4, st, D, now, pb, rfl, rfl, h⟩
      · rw [if_neg q2, if_neg q2]
        by_cases hD : D = 40
        · subst hD
          rw [done_F, if_pos (show nI 40 = 40 from rfl)]
          exact ⟨-2, st, 40, now, pb, rfl, rfl, h⟩
        · rw [done_C (by omega), if_neg (eN 40 (by omega) (by omega)), show ((600 : Int32) + nI v) = nI (600 + v) from nI_add 600 v]
          obtain ⟨now', pb2, k1, k2, k3⟩ := does_C h (by omega) (step_frost hR hv) pb
          rw [k1]
          exact ⟨_, _, _, now', pb2, rfl, rfl, k2⟩
  rcases pu_nng x1 with q | ⟨v, hv, rfl⟩
  · rw [if_pos (show x1 < 0 ∨ (1 : Int32) < x1 from .inl q), if_pos (show (0 : Int32) = 0 from rfl)]
    have q0 : ¬ x1 = 0 := fun w => by rw [w] at q; exact absurd q (by decide)
    have q1 : ¬ x1 = 1 := fun w => by rw [w] at q; exact absurd q (by decide)
    rw [if_neg q0, if_neg q1]
    exact ⟨-1, st, D, now, pb, rfl, rfl, h⟩
  · by_cases q : v < 2
    · have q3 : ¬ (nI v < 0 ∨ (1 : Int32) < nI v) := by
        rintro (w | w)
        · exact nI_pos hv w
        · exact absurd w (rN 1 (by omega))
      rw [if_neg q3, if_neg n10]
      by_cases q0 : v = 0
      · subst q0
        rw [if_pos (show nI 0 = 0 from rfl)]
        exact key 0 (by omega)
      · have q1 : v = 1 := by omega
        subst q1
        rw [if_neg (show ¬ nI 1 = 0 by decide), if_pos (show nI 1 = 1 from rfl)]
        exact key 1 (by omega)
    · rw [if_pos (show nI v < 0 ∨ (1 : Int32) < nI v from .inr (rL 1 (by omega) hv)), if_pos (show (0 : Int32) = 0 from rfl), if_neg (eN 0 (by omega) hv), if_neg (eN 1 (by omega) hv)]
      exact ⟨-1, st, D, now, pb, rfl, rfl, h⟩
theorem hand_C (hRS : pu_RS R A kinds strengths moved needs forbids now) {s : Int64} (hC' : pu_CD R s now) (hand : Nat → Int32) : ∃ x, M_X7_layHand now hand = some x ∧ (∀ j, j < 85 → x j = now j) ∧ pu_RS R A kinds strengths moved needs forbids x ∧ pu_CD R s x := by
  have key : ∃ x, M_X7_layHand now hand = some x ∧ ∀ j, j < 85 → x j = now j :=
    pu_lp (fun n k x => ∃ y, M_X7_layHand_b2 now n x (nI k) = some y ∧ ∀ j, j < 85 → y j = now j)
      (fun k x => ∀ j, j < k → x j = now j) 85 (by omega)
      (fun n x h => ⟨x, by rw [M_X7_layHand_b2, if_pos (show (85 : Int32) ≤ nI 85 by decide)], h⟩)
      (fun n k x hk h ih => by
        rw [M_X7_layHand_b2, if_neg (gN 85 hk), if_pos (pu_inb hk (by omega)), nI_clamp (by omega), nI_1]
        refine ih _ (fun j hj => ?_)
        by_cases e : j = k
        · subst e; rw [pu_us]
        · rw [pu_un e, h j (by omega)])
      hand (fun j hj => absurd hj (by omega))
  obtain ⟨x, h1, h2⟩ := key
  exact ⟨x, h1, h2, hRS.of (fun j hj => h2 j (by omega)), hC'.of hRS.1 (fun j _ hj => h2 j hj)⟩
theorem p_moves (h : pu_C R A kinds strengths moved needs forbids st D now) (hand : Nat → Int32) (la pb rch x1 x2 : Int32) :
    ∃ v la' hand' pb' rch', M_X6_moves st (nI D) (nI R) kinds strengths moved la rch x1 x2 = some (v, la', rch') ∧ M_X7_moves now hand la pb x1 x2 = some (v, hand', la', pb') := by
  obtain ⟨h1, h2, h3, h4, h5⟩ := id h
  have hR := h1.1
  unfold M_X6_moves M_X7_moves M_X6_refusalOfHaul M_X6_refusalOfFast
  rcases rs_ropes h1 x1 with ⟨i, hi, rfl, e1, e2⟩ | ⟨e1, e2⟩
  · rw [e1, e2, if_neg n10, if_neg n10, now_C h3]
    rcases in_19 x2 with ⟨n, hn0, hn, rfl, e3⟩ | ⟨e3, e4⟩
    · rw [e3, if_neg n10, if_neg (tN 1 (by omega) (by omega)), if_pos (aL 9 (by omega)), Option.bind_some, rs_fast h2 (by omega)]
      rcases fast_b (s := st D) (i := i) (by omega) with ⟨b1, b2, e5⟩ | e5
      · rw [e5, if_neg n10, if_neg n10]
        simp only [Option.bind_some, if_true]
        obtain ⟨x, k1, k2, k3, k4⟩ := hand_C h1 h2 hand
        obtain ⟨r1, m', pb', r2, r3, r4, r5⟩ := hl_H k3 k4 hi b1 b2 hn0 (by omega)
        rw [r1 rch, Option.bind_some, fp_eq hR r5, k1, Option.bind_some, r2 pb, Option.bind_some]
        exact ⟨_, _, _, _, _, rfl, rfl⟩
      · rw [e5, if_pos rfl, if_pos rfl]
        exact ⟨_, _, _, _, _, rfl, rfl⟩
    · rw [e4, if_pos rfl]
      refine ⟨-1, la, hand, pb, rch, ?_, rfl⟩
      rcases e3 with q | q
      · rw [if_pos q]; rfl
      · rw [if_neg q]
        by_cases q2 : x2 < 1
        · rw [if_pos q2]; rfl
        · rw [if_neg q2]; rfl
  · rw [e1, e2, if_pos rfl, if_pos rfl]
    refine ⟨-1, la, hand, pb, rch, ?_, rfl⟩
    by_cases q : x2 < 1
    · rw [if_pos q]; rfl
    · rw [if_neg q]
      by_cases q2 : x2 ≤ 9
      · rw [if_pos q2]; rfl
      · rw [if_neg q2]; rfl
theorem p_parts (h : pu_C R A kinds strengths moved needs forbids st D now) (hand : Nat → Int32) (la pb rch x1 : Int32) :
    ∃ v la' hand' pb' rch', M_X6_parts st (nI D) (nI R) kinds strengths moved la rch x1 = some (v, la', rch') ∧ M_X7_parts now hand la pb x1 = some (v, hand', la', pb') := by
  obtain ⟨h1, h2, h3, h4, h5⟩ := id h
  have hR := h1.1
  unfold M_X6_parts M_X7_parts M_X6_refusalOfFast
  rcases rs_ropes h1 x1 with ⟨i, hi, rfl, e1, e2⟩ | ⟨e1, e2⟩
  · rw [e1, e2, if_neg n10, if_neg n10, now_C h3, Option.bind_some, rs_fast h2 (by omega)]
    rcases fast_b (s := st D) (i := i) (by omega) with ⟨b1, b2, e5⟩ | e5
    · rw [e5, if_neg n10, if_neg n10]
      simp only [Option.bind_some, if_true]
      exact pu_loop (fun n k (z : (Nat → Int32) × Int32 × Int32) => ∃ v la' hand' pb' rch', M_X6_parts_b23 st (nI D) (nI R) kinds strengths moved n la z.2.2 (nI i) (st D) (nI k) = some (v, la', rch') ∧ M_X7_parts_b26 now n z.1 la z.2.1 (nI i) (nI k) = some (v, hand', la', pb'))
        (fun k z => 0 < k) 21
        (fun n z _ => by
          refine ⟨-9, la, z.1, z.2.1, z.2.2, ?_, ?_⟩
          · rw [M_X6_parts_b23, if_pos (show (20 : Int32) < nI 21 by decide)]
          · rw [M_X7_parts_b26, if_pos (show (20 : Int32) < nI 21 by decide)])
        (fun n k z hk hk0 ih => by
          obtain ⟨x, k1, k2, k3, k4⟩ := hand_C h1 h2 z.1
          obtain ⟨r1, m', pb', r2, r3, r4, r5⟩ := hl_H k3 k4 hi b1 b2 hk0 (v := k) (by omega)
          rw [M_X6_parts_b23, M_X7_parts_b26, if_neg (rN 20 (by omega)), if_neg (rN 20 (by omega)), r1 z.2.2, Option.bind_some, fp_eq hR r5, k1, Option.bind_some, r2 z.2.1, Option.bind_some]
          by_cases q : pb' = -9
          · rw [if_pos q, if_pos q, nI_1]
            exact ih (m', pb', hC R kinds strengths moved (st D) i k) (by omega)
          · rw [if_neg q, if_neg q]
            exact ⟨_, _, _, _, _, rfl, rfl⟩)
        20 x_fuel 1 (hand, pb, rch) (by omega) (by unfold x_fuel; omega) (by omega)
    · rw [e5, if_pos rfl, if_pos rfl]
      exact ⟨_, _, _, _, _, rfl, rfl⟩
  · rw [e1, e2, if_pos rfl, if_pos rfl]
    exact ⟨_, _, _, _, _, rfl, rfl⟩
theorem p_lawful (h : pu_C R A kinds strengths moved needs forbids st D now) : ∃ v, M_X6_lawful st (nI D) (nI R) (nI A) needs forbids = some v ∧ M_X7_lawful now = some v := by
  obtain ⟨h1, h2, h3, h4, h5⟩ := h
  unfold M_X6_lawful M_X7_lawful M_X2_isEmpty
  rw [h1.2.2.1]
  by_cases q : R = 0
  · subst q; exact ⟨_, rfl, rfl⟩
  · have := h1.1
    rw [if_neg (eN 0 q (by omega)), if_neg (eN 0 q (by omega)), if_pos rfl, now_C h3, Option.bind_some, lw_A h1 h2, tt_eq h1 h2, Option.bind_some, Option.bind_some, (lw_C h1 (fun j hj q => tt_all h1 h2 hj q)).2.1]
    exact ⟨_, rfl, rfl⟩
end
