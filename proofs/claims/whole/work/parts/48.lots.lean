/-! PURE PART: terms by lots -/
theorem lq {a d : Nat} (ha : a < 2 ^ 31) (h0 : 0 < d) (hd : d < 2 ^ 31) : lN a / lN d = lN (a / d) := pk_lDiv (by omega) h0 (by omega)
theorem lr {a d : Nat} (ha : a < 2 ^ 31) (h0 : 0 < d) (hd : d < 2 ^ 31) : lN a - lN a / lN d * lN d = lN (a % d) := pk_lRem (by omega) h0 (by omega)
theorem in_1N (N : Nat) (hN : N < 2 ^ 31) (L : Int64) (hL : (nI N).toInt64 = L) (x : Int32) : (∃ v, 0 < v ∧ v ≤ N ∧ x = nI v ∧ M_X7_in x.toInt64 (1 : Int64) L = 1) ∨ ((x < 1 ∨ ¬ x ≤ nI N) ∧ M_X7_in x.toInt64 (1 : Int64) L = 0) := by
  have e : M_X7_in x.toInt64 (1 : Int64) L = if (x < 1 ∨ nI N < x) then 0 else 1 := by rw [← hL]; exact pu_in1 x 1 (nI N)
  rw [e]
  rcases pu_nng x with h | ⟨v, hv, rfl⟩
  · have : x < 1 := by
      rw [Int32.lt_iff_toInt_lt] at h ⊢
      have a : (0 : Int32).toInt = 0 := by decide
      have b : (1 : Int32).toInt = 1 := by decide
      omega
    exact .inr ⟨.inl this, if_pos (.inl this)⟩
  · rcases Nat.eq_zero_or_pos v with q | q
    · subst q; exact .inr ⟨.inl (by decide), if_pos (.inl (by decide))⟩
    · by_cases q2 : v ≤ N
      · exact .inl ⟨v, q, q2, rfl, if_neg (fun w => w.elim (tN 1 (by omega) hv) (pu_nlt hN hv q2))⟩
      · exact .inr ⟨.inr (pu_nle hv hN (by omega)), if_pos (.inr (pu_lt hN hv (by omega)))⟩
section
variable {R A D : Nat} {kinds strengths moved needs forbids now : Nat → Int32} {st : Nat → Int64}
theorem lot_C (h : pu_C R A kinds strengths moved needs forbids st D now) (hR0 : 0 < R) (rch : Int32) {s : Nat} (hs : s < 2 ^ 31) :
    ∃ s' rch' c, M_X2_byLot (nI R) kinds strengths moved rch (st D) (nI s) = some (s', rch') ∧ M_X7_deedBy now (lN s) = some c ∧ pu_step R A kinds strengths moved needs forbids (fun _ => True) (st D) c s' := by
  obtain ⟨h1, h2, h3, h4, h5⟩ := h
  have hR := h1.1
  have e0 := h1.2.2.1
  have hi := Nat.mod_lt s hR0
  have h8 : s / 8 < 2 ^ 31 := Nat.lt_of_le_of_lt (Nat.div_le_self s 8) hs
  have h64 : s / 64 < 2 ^ 31 := Nat.lt_of_le_of_lt (Nat.div_le_self s 64) hs
  have a1 : nI s - nI s / nI R * nI R = nI (s % R) := pk_rem hs hR0 (by omega)
  have a2 : nI s / (8 : Int32) = nI (s / 8) := pk_div (d := 8) hs (by omega) (by omega)
  have a3 : nI (s / 8) - nI (s / 8) / (8 : Int32) * (8 : Int32) = nI (s / 8 % 8) := pk_rem (d := 8) h8 (by omega) (by omega)
  have a4 : nI s / (64 : Int32) = nI (s / 64) := pk_div (d := 64) hs (by omega) (by omega)
  have a5 : nI (s / 64) - nI (s / 64) / (4 : Int32) * (4 : Int32) = nI (s / 64 % 4) := pk_rem (d := 4) h64 (by omega) (by omega)
  have b0 : (nI R).toInt64 = lN R := nI_l (by omega)
  have b1 : lN s - lN s / lN R * lN R = lN (s % R) := lr hs hR0 (by omega)
  have b2 : lN s / (8 : Int64) = lN (s / 8) := lq (d := 8) hs (by omega) (by omega)
  have b3 : lN (s / 8) - lN (s / 8) / (8 : Int64) * (8 : Int64) = lN (s / 8 % 8) := lr (d := 8) h8 (by omega) (by omega)
  have b4 : lN s / (64 : Int64) = lN (s / 64) := lq (d := 64) hs (by omega) (by omega)
  have b5 : lN (s / 64) - lN (s / 64) / (4 : Int64) * (4 : Int64) = lN (s / 64 % 4) := lr (d := 4) h64 (by omega) (by omega)
  have bR : ¬ lN R = 0 := eu_0 (by omega) hR0
  have aR : ¬ nI R = 0 := eN 0 (by omega) (by omega)
  have c1 : (1 : Int32) + nI (s / 64 % 4) = nI (1 + s / 64 % 4) := nI_add 1 _
  have hq : s / 8 % 8 < 8 := Nat.mod_lt _ (by omega)
  have h4' : s / 64 % 4 < 4 := Nat.mod_lt _ (by omega)
  unfold M_X2_byLot M_X7_deedBy
  rw [e0, b0, if_pos bR, if_pos (rL 0 hR0 (by omega)), if_pos aR, a2, a3, a1, b2, b3, b1, lN_i, lN_i, a4, a5, b4, b5, lN_i, c1, h2.2.2.1, h2.2.2.2.1, h2.2.2.2.2]
  generalize hqq : s / 8 % 8 = q at hq
  generalize hii : s % R = i at hi
  generalize hvv : s / 64 % 4 = v at h4'
  rw [ha_b _ (by omega), ha_b _ (by omega), st_letGo _ (by omega), st_parted _ (by omega), decide_eq_true (show i < 6 by omega), Bool.true_and, Bool.true_and, st_isLetGo _ (by omega), st_isParted _ (by omega), rs_fast h2 (by omega)]
  have hc : q < 5 ∨ q = 5 ∨ q = 6 ∨ q = 7 := by omega
  rcases hc with c | c | c | c
  · rw [if_neg (gN 5 c), if_neg (eN 5 (by omega) (by omega)), if_neg (eN 6 (by omega) (by omega)), if_neg (eN 7 (by omega) (by omega))]
    rcases fast_b (s := st D) (i := i) (by omega) with ⟨f1, f2, f3⟩ | f3
    · obtain ⟨r1, -⟩ := hl_H h1 h2 hi f1 f2 (v := 1 + v) (by omega) (by omega)
      rw [f3, if_neg n10, if_neg n10, r1 rch, Option.bind_some]
      have hst := step_haul (R := R) (A := A) (kinds := kinds) (strengths := strengths) (moved := moved) (needs := needs) (forbids := forbids) (s := st D) hi f1 f2 (v := 1 + v) (by omega) (by omega)
      have ec : (((100 : Int32) + ((10 : Int32) * nI (1 + v))) + nI i) = nI (100 + 10 * (1 + v) + i) := by
        rw [show (10 : Int32) = nI 10 from rfl, pk_mul, show (100 : Int32) = nI 100 from rfl, nI_add, nI_add]
      rw [ec]
      refine ⟨_, _, _, rfl, rfl, fun x a b p => ?_⟩
      obtain ⟨y, q', k1, k2, k3, _⟩ := hst x a b p
      exact ⟨y, q', k1, k2, k3, trivial⟩
    · rw [f3, if_pos p00, if_pos p00]
      exact ⟨_, _, _, rfl, rfl, step_idle⟩
  · subst c
    rw [if_pos (show nI 5 = 5 from rfl), if_pos (show (5 : Int32) ≤ nI 5 by decide), if_pos (show nI 5 = 5 from rfl)]
    cases bl (st D) (30 + i)
    · cases bl (st D) (24 + i)
      · simp only [Bool.false_eq_true, if_false, if_pos p00]
        refine ⟨_, _, _, rfl, rfl, ?_⟩
        rw [show (200 : Int32) + nI i = nI (200 + i) from nI_add 200 i]
        exact step_slack hR hi
      · simp only [Bool.false_eq_true, if_false, if_true, if_pos p00, if_neg n10]
        refine ⟨_, _, _, rfl, rfl, ?_⟩
        rw [show (300 : Int32) + nI i = nI (300 + i) from nI_add 300 i]
        exact step_belay hR hi
    · simp only [if_true, if_neg n10]
      exact ⟨_, _, _, rfl, rfl, step_idle⟩
  · subst c
    rw [if_neg (show ¬ nI 6 = 5 by decide), if_pos (show nI 6 = 6 from rfl), if_pos (show (5 : Int32) ≤ nI 6 by decide), if_neg (show ¬ nI 6 = 5 by decide), if_neg (show ¬ nI 6 = 7 by decide)]
    cases bl (st D) (30 + i)
    · simp only [Bool.false_eq_true, if_false, if_pos p00]
      exact ⟨_, _, _, rfl, rfl, step_idle⟩
    · simp only [if_true, if_neg n10]
      refine ⟨_, _, _, rfl, rfl, ?_⟩
      rw [show (500 : Int32) + nI i = nI (500 + i) from nI_add 500 i]
      exact step_splice hR hi
  · subst c
    rw [if_neg (show ¬ nI 7 = 5 by decide), if_neg (show ¬ nI 7 = 6 by decide), if_pos (show nI 7 = 7 from rfl), if_pos (show (5 : Int32) ≤ nI 7 by decide), if_neg (show ¬ nI 7 = 5 by decide), if_pos (show nI 7 = 7 from rfl)]
    obtain ⟨f, hf, ef⟩ := st_fN (st D)
    rw [ef, show (1 : Int32) - nI f = nI (1 - f) from pk_sub (a := 1) (by omega), show (601 : Int32) - nI f = nI (600 + (1 - f)) by rw [show 600 + (1 - f) = 601 - f by omega]; exact pk_sub (a := 601) (by omega)]
    exact ⟨_, _, _, rfl, rfl, step_frost hR (by omega)⟩
theorem add_C (hD : D < 40) {s' : Int64} : M_X0_add st (nI D) s' = some (vp_updL st (D + 1) s', nI (D + 1)) := by
  unfold M_X0_add
  rw [nI_1, if_neg (nI_pos (by omega)), if_neg (gN 40 hD), if_pos (pu_inb (by omega) (by omega)), nI_clamp (by omega)]
theorem p_lots (h : pu_C R A kinds strengths moved needs forbids st D now) (rch pb x1 x2 : Int32) :
    ∃ v st' D' rch' now' pb', M_X6_lots (nI R) (nI A) kinds strengths moved needs forbids st (nI D) rch x1 x2 = some (v, st', nI D', rch') ∧ M_X7_lots now pb x1 x2 = some (v, now', pb') ∧ pu_C R A kinds strengths moved needs forbids st' D' now' := by
  have hR := h.1.1
  have e0 := h.1.2.2.1
  have hD := h.2.2.1
  unfold M_X6_lots M_X7_lots M_X2_isEmpty M_X0_isFull
  rcases in_1N 20 (by decide) 20 (by decide) x1 with ⟨v, hv0, hv, rfl, e⟩ | ⟨q, e⟩
  · rw [e, if_neg n10, if_neg (tN 1 hv0 (by omega)), if_neg (rN 20 hv)]
    rcases in_1N 2147483646 (by decide) 2147483646 (by decide) x2 with ⟨s, hs0, hs, rfl, e2⟩ | ⟨q, e2⟩
    · rw [e2, if_neg n10, if_neg (tN 1 hs0 (by omega)), if_pos (aL 2147483646 hs), e0]
      by_cases q : R = 0
      · subst q
        exact ⟨_, _, D, _, _, _, rfl, rfl, h⟩
      rw [if_neg (eN 0 q (by omega)), if_neg (eN 0 q (by omega)), if_pos p00, h.2.2.2.1, nI_add]
      by_cases q2 : D + v ≤ 40
      · rw [if_pos (aL 40 q2), if_pos p00, if_pos (aL 40 q2), nI_l (by omega)]
        have key := pu_lp (fun n k (z : (Nat → Int64) × (Nat → Int32) × Int32 × Int32 × Nat) => ∃ w st' D' rch' now' pb', M_X6_lots_b57 (nI R) (nI A) kinds strengths moved needs forbids n z.1 (nI (D + k)) z.2.2.1 (nI v) (nI z.2.2.2.2) (nI k) = some (w, st', nI D', rch') ∧ M_X7_lots_b61 n z.2.1 z.2.2.2.1 (nI v) (lN z.2.2.2.2) (nI k) = some (w, now', pb') ∧ pu_C R A kinds strengths moved needs forbids st' D' now')
          (fun k z => pu_C R A kinds strengths moved needs forbids z.1 (D + k) z.2.1 ∧ z.2.2.2.2 < 2 ^ 31) v (by omega)
          (fun n z ⟨hz, hz2⟩ => by
            have ht := (lw_C hz.1 (fun j hj q => tt_all hz.1 hz.2.1 hj q))
            obtain ⟨u, hu, eu⟩ := ht.2.2.2
            rw [M_X6_lots_b57, if_pos (pu_le (by omega) (by omega) (Nat.le_refl v)), M_X7_lots_b61, if_pos (pu_le (by omega) (by omega) (Nat.le_refl v)), now_C (by omega), Option.bind_some, lw_A hz.1 hz.2.1, Option.bind_some, tt_eq hz.1 hz.2.1, Option.bind_some, ht.2.1, Option.bind_some, eu, (bc_eq u hu).1]
            exact ⟨_, _, _, _, _, _, rfl, rfl, hz⟩)
          (fun n k z hk ⟨hz, hz2⟩ ih => by
            have hs' : 48271 * z.2.2.2.2 % 2147483647 < 2 ^ 31 := Nat.lt_of_lt_of_le (Nat.mod_lt _ (by decide)) (by decide)
            have ea : ((((48271 : Int64) * (nI z.2.2.2.2).toInt64) - ((48271 : Int64) * (nI z.2.2.2.2).toInt64) / (2147483647 : Int64) * (2147483647 : Int64)).toInt32) = nI (48271 * z.2.2.2.2 % 2147483647) := by
              rw [nI_l hz2, show (48271 : Int64) = lN 48271 from rfl, lN_mul, show (2147483647 : Int64) = lN 2147483647 from rfl, pk_lRem (by omega) (by decide) (by decide), lN_i]
            have eb : ((lN z.2.2.2.2 * (48271 : Int64)) - (lN z.2.2.2.2 * (48271 : Int64)) / (2147483647 : Int64) * (2147483647 : Int64)) = lN (48271 * z.2.2.2.2 % 2147483647) := by
              rw [show (48271 : Int64) = lN 48271 from rfl, lN_mul, show (2147483647 : Int64) = lN 2147483647 from rfl, pk_lRem (by omega) (by decide) (by decide), Nat.mul_comm]
            obtain ⟨s', rch', c, k1, k2, k3⟩ := lot_C hz (by omega) z.2.2.1 hs'
            obtain ⟨now', pb', k4, k5, _⟩ := does_C hz (by omega) k3 z.2.2.2.1
            rw [M_X6_lots_b57, if_neg (nI_ge hk (by omega)), M_X7_lots_b61, if_neg (nI_ge hk (by omega)), ea, eb]
            unfold M_X6_lots_b75 M_X7_lots_b77
            rw [now_C (by omega), Option.bind_some, k1, Option.bind_some, add_C (by omega), Option.bind_some, k2, Option.bind_some, k4, Option.bind_some, nI_1]
            exact ih (_, now', rch', pb', _) ⟨k5, hs'⟩)
          (st, now, rch, pb, s) ⟨h, by show s < 2 ^ 31; omega⟩
        exact key
      · rw [if_neg (aN 40 (by omega) (by omega)), if_neg n10, if_neg (aN 40 (by omega) (by omega))]
        exact ⟨_, _, D, _, _, _, rfl, rfl, h⟩
    · rw [e2, if_pos p00]
      refine ⟨-1, st, D, rch, now, pb, ?_, rfl, h⟩
      by_cases q0 : x2 < 1
      · rw [if_pos q0]
      · rw [if_neg q0, if_neg (show ¬ x2 ≤ (2147483646 : Int32) from q.resolve_left q0)]
  · rw [e, if_pos p00]
    refine ⟨-1, st, D, rch, now, pb, ?_, rfl, h⟩
    by_cases q0 : x1 < 1
    · rw [if_pos q0]
    · rw [if_neg q0, if_pos]
      have := q.resolve_left q0
      rw [Int32.lt_iff_toInt_lt]
      rw [Int32.le_iff_toInt_le] at this
      show (nI 20).toInt < _
      omega
end
