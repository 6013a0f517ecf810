/-! PURE PART: what a rope is, marks, what falls, what is kept -/
theorem in_0N (N : Nat) (hN : N < 2 ^ 31) (L : Int64) (hL : (nI N).toInt64 = L) (x : Int32) : (∃ v, v ≤ N ∧ x = nI v ∧ M_X7_in x.toInt64 (0 : Int64) L = 1) ∨ ((x < 0 ∨ ¬ x ≤ nI N) ∧ M_X7_in x.toInt64 (0 : Int64) L = 0) := by
  have e : M_X7_in x.toInt64 (0 : Int64) L = if (x < 0 ∨ nI N < x) then 0 else 1 := by rw [← hL]; exact pu_in1 x 0 (nI N)
  rw [e]
  rcases pu_nng x with h | ⟨v, hv, rfl⟩
  · exact .inr ⟨.inl h, if_pos (.inl h)⟩
  · by_cases q : v ≤ N
    · exact .inl ⟨v, q, rfl, if_neg (fun w => w.elim (nI_pos hv) (pu_nlt hN hv q))⟩
    · exact .inr ⟨.inr (pu_nle hv hN (by omega)), if_pos (.inr (pu_lt hN hv (by omega)))⟩
theorem pw_b : ∀ R, R < 7 → ((1 : Int32) <<< (nI R &&& 31)) = nI (2 ^ R) := by decide +kernel
theorem pw_hi : ∀ R, R < 7 → ∀ k, k < 64 → 2 ^ R ≤ k → ¬ (nI k &&& ((((1 : Int32) <<< (nI R &&& 31)) - 1) ^^^ (-1))) = 0 := by decide +kernel
theorem pw_lo : ∀ R, R < 7 → ∀ k, k < 64 → k < 2 ^ R → (nI k &&& ((((1 : Int32) <<< (nI R &&& 31)) - 1) ^^^ (-1))) = 0 := by decide +kernel
theorem of_eq : ∀ k, k < 6 → ∀ x, x < 6 → 0 < x → M_X6_isOf (nI k) (nI x) = M_X7_isOf (nI k) (nI x) := by decide +kernel
def cm (m : Nat → Int32) (w : Int32) : Nat → Nat
  | 0 => 0
  | k + 1 => cm m w k + if m (14 + k) = w then 1 else 0
theorem cm_le (m : Nat → Int32) (w : Int32) : ∀ k, cm m w k ≤ k := by
  intro k
  induction k with
  | zero => exact Nat.le_refl 0
  | succ k ih => unfold cm; split <;> omega
section
variable {R A D : Nat} {kinds strengths moved needs forbids now : Nat → Int32} {st : Nat → Int64}
theorem told_C (h : pu_C R A kinds strengths moved needs forbids st D now) {i : Nat} (hi : i < R) (x2 : Int32) : ∃ v, M_X6_detail st (nI D) (nI R) kinds strengths moved (nI i) x2 = some v ∧ M_X7_toldOf now (nI i) x2 = some v := by
  obtain ⟨h1, h2, h3, h4, h5⟩ := h
  have hR := h1.1
  obtain ⟨a1, -, -, -, a5, -⟩ := h1.2.2.2.2.1 i hi
  obtain ⟨v, hv, b1, b2⟩ := rs_holds h1 hi
  unfold M_X6_detail M_X7_toldOf
  rw [now_C h3, Option.bind_some, rs_kind hR hi, b1, b2, a5, st_isLetGo _ (by omega), st_isParted _ (by omega), if_pos (iO 2 (by omega)), cO 2 (by omega), if_pos (iO 14 (by omega)), cO 14 (by omega), if_pos (iO 76 (by omega)), cO 76 (by omega), h2.2.2.1, h2.2.2.2.1, h2.1 i hi, a1, ha_b _ (by omega), ha_b _ (by omega), st_letGo _ (by omega), st_parted _ (by omega), decide_eq_true (by omega : i < 6), Bool.true_and, Bool.true_and]
  by_cases q0 : x2 = 0
  · simp only [if_pos q0]; exact ⟨_, rfl, rfl⟩
  simp only [if_neg q0]
  by_cases q1 : x2 = 1
  · simp only [if_pos q1]; exact ⟨_, rfl, rfl⟩
  simp only [if_neg q1]
  by_cases q2 : x2 = 2
  · simp only [if_pos q2]; exact ⟨_, rfl, rfl⟩
  simp only [if_neg q2]
  by_cases q3 : x2 = 3
  · simp only [if_pos q3]; exact ⟨_, rfl, rfl⟩
  simp only [if_neg q3]
  by_cases q4 : x2 = 4
  · simp only [if_pos q4]
    cases bl (st D) (24 + i) <;> exact ⟨_, rfl, rfl⟩
  simp only [if_neg q4]
  cases bl (st D) (30 + i) <;> exact ⟨_, rfl, rfl⟩
theorem p_rope (h : pu_C R A kinds strengths moved needs forbids st D now) (la x1 x2 : Int32) : ∃ v la', M_X6_rope st (nI D) (nI R) kinds strengths moved la x1 x2 = some (v, la') ∧ M_X7_rope now la x1 x2 = some (v, la') := by
  unfold M_X6_rope M_X7_rope
  rcases rs_ropes h.1 x1 with ⟨i, hi, rfl, e1, e2⟩ | ⟨e1, e2⟩
  · rw [e1, e2, if_neg n10, if_neg n10]
    rcases in_0N 5 (by decide) 5 (by decide) x2 with ⟨v, hv, rfl, e⟩ | ⟨q, e⟩
    · obtain ⟨w, k1, k2⟩ := told_C h hi (nI v)
      rw [e, if_neg n10, if_neg (nI_pos (by omega)), if_pos (aL 5 hv), k1, k2]
      exact ⟨_, _, rfl, rfl⟩
    · rw [e, if_pos p00]
      by_cases q0 : x2 < 0
      · rw [if_pos q0]; exact ⟨_, _, rfl, rfl⟩
      · rw [if_neg q0, if_neg (show ¬ x2 ≤ (5 : Int32) from q.resolve_left q0)]; exact ⟨_, _, rfl, rfl⟩
  · rw [e1, e2, if_pos p00, if_pos p00]; exact ⟨_, _, rfl, rfl⟩
theorem p_passes (h : pu_C R A kinds strengths moved needs forbids st D now) (x1 x2 : Int32) : ∃ v, M_X6_passes (nI R) kinds x1 x2 = some v ∧ M_X7_passes now x1 x2 = some v := by
  unfold M_X6_passes M_X7_passes
  rcases rs_ropes h.1 x1 with ⟨i, hi, rfl, e1, e2⟩ | ⟨e1, e2⟩
  · have hR := h.1.1
    obtain ⟨a1, -⟩ := h.1.2.2.2.2.1 i hi
    rw [e1, e2, if_neg n10, if_neg n10]
    rcases in_0N 99 (by decide) 99 (by decide) x2 with ⟨v, hv, rfl, e⟩ | ⟨q, e⟩
    · rw [e, if_neg n10, if_neg (nI_pos (by omega)), if_pos (aL 99 hv), rs_kind hR hi, Option.bind_some, if_pos (iO 2 (by omega)), cO 2 (by omega), a1, pa_eq _ (by omega)]
      exact ⟨_, rfl, rfl⟩
    · rw [e, if_pos p00]
      by_cases q0 : x2 < 0
      · rw [if_pos q0]; exact ⟨_, rfl, rfl⟩
      · rw [if_neg q0, if_neg (show ¬ x2 ≤ (99 : Int32) from q.resolve_left q0)]; exact ⟨_, rfl, rfl⟩
  · rw [e1, e2, if_pos p00, if_pos p00]; exact ⟨_, rfl, rfl⟩
theorem mv_C (h : pu_RS R A kinds strengths moved needs forbids now) (w : Int32) : M_X2_moversOf (nI R) moved w = some (nI (cm now w R)) := by
  have hR := h.1
  exact pu_lp (fun n k (x : Int32) => M_X2_moversOf_b4 (nI R) moved n w x (nI k) = some (nI (cm now w R)))
    (fun k x => x = nI (cm now w k)) R (by omega)
    (fun n x hx => by rw [M_X2_moversOf_b4, if_pos (pu_le (by omega) (by omega) (Nat.le_refl R)), hx])
    (fun n k x hk hx ih => by
      obtain ⟨-, -, -, -, a5, -⟩ := h.2.2.2.2.1 k hk
      rw [M_X2_moversOf_b4, if_neg (nI_ge hk (by omega)), a5, Option.bind_some]
      simp only [M_X2_moversOf_b24, nI_1]
      by_cases q : now (14 + k) = w
      · rw [if_pos q]
        exact ih _ (by rw [hx, nI_1]; rw [cm, if_pos q])
      · rw [if_neg q]
        exact ih _ (by rw [hx]; rw [cm, if_neg q]; rfl))
    0 rfl
theorem ot_C (h : pu_RS R A kinds strengths moved needs forbids now) {i : Nat} (hi : i < R) {w : Int32} (hw : ¬ w = -9) : ∃ c, M_X7_othersThatMove now (nI i) w = some (nI c) ∧ c + (if now (14 + i) = w then 1 else 0) = cm now w R := by
  have hR := h.1
  have e0 := h.2.2.1
  exact pu_lp (fun n k (x : Int32) => ∃ c, M_X7_othersThatMove_b5 now n (nI i) w x (nI k) = some (nI c) ∧ c + (if now (14 + i) = w then 1 else 0) = cm now w R)
    (fun k x => ∃ c, x = nI c ∧ c + (if i < k ∧ now (14 + i) = w then 1 else 0) = cm now w k) R (by omega)
    (fun n x ⟨c, hx, hc⟩ => by
      refine ⟨c, by rw [M_X7_othersThatMove_b5, e0, if_pos (pu_le (by omega) (by omega) (Nat.le_refl R)), hx], ?_⟩
      rw [← hc]
      by_cases q : now (14 + i) = w
      · rw [if_pos q, if_pos ⟨hi, q⟩]
      · rw [if_neg q, if_neg (fun z => q z.2)])
    (fun n k x hk ⟨c, hx, hc⟩ ih => by
      rw [M_X7_othersThatMove_b5, e0, if_neg (nI_ge hk (by omega)), if_neg hw, if_pos (iO 14 (by omega)), cO 14 (by omega)]
      simp only [M_X7_othersThatMove_b48, M_X7_othersThatMove_b47, nI_1]
      have ez : x + (0 : Int32) = nI c := by rw [hx]; exact nI_add c 0
      by_cases q1 : k = i
      · subst q1
        rw [if_pos rfl, ez]
        refine ih _ ⟨c, rfl, ?_⟩
        rw [if_neg (show ¬ (k < k ∧ now (14 + k) = w) from fun z => by omega)] at hc
        rw [cm]
        by_cases q : now (14 + k) = w
        · rw [if_pos (show k < k + 1 ∧ now (14 + k) = w from ⟨by omega, q⟩), if_pos q]; omega
        · rw [if_neg (show ¬ (k < k + 1 ∧ now (14 + k) = w) from fun z => q z.2), if_neg q]; omega
      · rw [if_neg (pu_ne (by omega) (by omega) q1)]
        have e3 : (if i < k + 1 ∧ now (14 + i) = w then 1 else 0) = (if i < k ∧ now (14 + i) = w then 1 else 0) := by
          by_cases z : i < k ∧ now (14 + i) = w
          · rw [if_pos z, if_pos ⟨by omega, z.2⟩]
          · rw [if_neg z, if_neg (fun z2 => z ⟨by omega, z2.2⟩)]
        by_cases q : now (14 + k) = w
        · rw [if_pos q, hx, nI_1]
          refine ih _ ⟨c + 1, rfl, ?_⟩
          rw [e3]; rw [cm, if_pos q]; omega
        · rw [if_neg q, ez]
          refine ih _ ⟨c, rfl, ?_⟩
          rw [e3]; rw [cm, if_neg q]; omega)
    0 ⟨0, rfl, by rw [if_neg (fun z => by omega)]; rfl⟩
theorem ot_N (h : pu_RS R A kinds strengths moved needs forbids now) {i : Nat} : M_X7_othersThatMove now (nI i) (-9) = some 0 := by
  have hR := h.1
  have e0 := h.2.2.1
  exact pu_lp (fun n k (x : Int32) => M_X7_othersThatMove_b5 now n (nI i) (-9) x (nI k) = some 0)
    (fun k x => x = 0) R (by omega)
    (fun n x hx => by rw [M_X7_othersThatMove_b5, e0, if_pos (pu_le (by omega) (by omega) (Nat.le_refl R)), hx])
    (fun n k x hk hx ih => by
      rw [M_X7_othersThatMove_b5, e0, if_neg (nI_ge hk (by omega)), if_pos rfl]
      simp only [M_X7_othersThatMove_b48, M_X7_othersThatMove_b47, nI_1]
      have ez : x + (0 : Int32) = 0 := by rw [hx]; rfl
      rw [ez, ite_self]
      exact ih 0 rfl)
    0 rfl
theorem tb_eq (s : Int64) (y : Int32) : ∃ v, v < 64 ∧ tautF s &&& y = nI v := b_s64 (fun j h6 h7 => by rw [b_and, st_t s h7, decide_eq_false (by omega), Bool.false_and, Bool.false_and])
theorem p_mark (h : pu_C R A kinds strengths moved needs forbids st D now) (lf : Int32) (fc : Nat → Int32) (x1 x2 : Int32) : ∃ v lf' fc', M_X6_mark st (nI D) (nI R) kinds strengths moved lf fc x1 x2 = some (v, lf', fc') ∧ M_X7_mark now fc lf x1 x2 = some (v, fc', lf') := by
  obtain ⟨h1, h2, h3, h4, h5⟩ := h
  have hR := h1.1
  have e : M_X7_in x2.toInt64 (1 : Int64) (5 : Int64) = if (x2 < 1 ∨ (5 : Int32) < x2) then 0 else 1 := pu_in1 x2 1 5
  unfold M_X6_mark M_X7_mark
  rcases rs_ropes h1 x1 with ⟨i, hi, rfl, e1, e2⟩ | ⟨e1, e2⟩
  · rw [e1, e2, if_neg n10, if_neg n10, e]
    rcases pu_nng x2 with q | ⟨v, hv, rfl⟩
    · have q1 : x2 < 1 := by
        rw [Int32.lt_iff_toInt_lt] at q ⊢
        have a : (0 : Int32).toInt = 0 := by decide
        have b : (1 : Int32).toInt = 1 := by decide
        omega
      have q2 : x2 ≤ 0 := by
        rw [Int32.lt_iff_toInt_lt] at q
        rw [Int32.le_iff_toInt_le]
        omega
      rw [if_pos (show x2 < 1 ∨ (5 : Int32) < x2 from .inl q1), if_pos p00, if_pos q2]
      exact ⟨_, _, _, rfl, rfl⟩
    · by_cases q0 : v = 0
      · subst q0
        exact ⟨_, _, _, rfl, rfl⟩
      · by_cases q5 : 5 < v
        · rw [if_pos (show nI v < 1 ∨ (5 : Int32) < nI v from .inr (rL 5 q5 hv)), if_pos p00, if_neg (nI_nle (by omega) hv), if_neg (tN 6 (by omega) hv)]
          exact ⟨_, _, _, rfl, rfl⟩
        · obtain ⟨a1, ⟨kk, hkk, a2⟩, -, -, a5, a6⟩ := h1.2.2.2.2.1 i hi
          rw [if_neg (show ¬ (nI v < 1 ∨ (5 : Int32) < nI v) from fun w => w.elim (tN 1 (by omega) hv) (rN 5 (by omega) (by decide))), if_neg n10, if_neg (nI_nle (by omega) hv), if_pos (tL 6 (by omega)), rs_kind hR hi, Option.bind_some, if_pos (iO 2 (by omega)), cO 2 (by omega), a1, a2, ← of_eq kk hkk v (by omega) (by omega), ← a2]
          by_cases qo : M_X6_isOf (kinds i) (nI v) = 0
          · rw [if_pos qo, if_pos qo, show (3 : Int32) = nI 3 from rfl, pu_f (by decide) (by decide), pu_g (by decide)]
            exact ⟨_, _, _, rfl, rfl⟩
          · have i76 : inb ((76 : Int32) + nI i) 85 := iO 76 (by omega)
            have i14 : inb ((14 : Int32) + nI i) 85 := iO 14 (by omega)
            have c76 : ((76 : Int32) + nI i).toNatClampNeg = 76 + i := cO 76 (by omega)
            have c14 : ((14 : Int32) + nI i).toNatClampNeg = 14 + i := cO 14 (by omega)
            rw [if_neg qo, if_neg qo, now_C h3, Option.bind_some, a5]
            simp only [if_pos i76, if_pos i14, c76, c14, h2.1 i hi]
            obtain ⟨hv', hhv, b1, b2⟩ := rs_holds h1 hi
            have hcase : v = 1 ∨ v = 2 ∨ v = 3 ∨ v = 4 ∨ v = 5 := by omega
            rcases hcase with c | c | c | c | c <;> subst c
            · rw [if_pos (show nI 1 = 1 from rfl), if_pos (show nI 1 = 1 from rfl), b1, b2]
              exact ⟨_, _, _, rfl, rfl⟩
            · rw [if_neg (show ¬ nI 2 = 1 by decide), if_neg (show ¬ nI 2 = 1 by decide), if_pos (show nI 2 = 2 from rfl), if_pos (show nI 2 = 2 from rfl), Option.bind_some]
              by_cases q9 : now (14 + i) = -9
              · rw [if_pos q9, q9, ot_N h1]
                exact ⟨_, _, _, rfl, rfl⟩
              · obtain ⟨c, k1, k2⟩ := ot_C h1 hi q9
                rw [if_neg q9, Option.bind_some, mv_C h1, k1]
                rw [if_pos rfl] at k2
                refine ⟨nI c, lf, fc, ?_, rfl⟩
                rw [← k2, Option.bind_some, show nI (c + 1) - (1 : Int32) = nI c from nI_pred c]
            · rw [if_neg (show ¬ nI 3 = 1 by decide), if_neg (show ¬ nI 3 = 1 by decide), if_neg (show ¬ nI 3 = 2 by decide), if_neg (show ¬ nI 3 = 2 by decide), if_pos (show nI 3 = 3 from rfl), if_pos (show nI 3 = 3 from rfl), Option.bind_some]
              obtain ⟨sv, hsv, es⟩ := st_sN (st D) (nI i)
              rw [es, pa_eq _ (by omega)]
              exact ⟨_, _, _, rfl, rfl⟩
            · rw [if_neg (show ¬ nI 4 = 1 by decide), if_neg (show ¬ nI 4 = 1 by decide), if_neg (show ¬ nI 4 = 2 by decide), if_neg (show ¬ nI 4 = 2 by decide), if_neg (show ¬ nI 4 = 3 by decide), if_neg (show ¬ nI 4 = 3 by decide), if_pos (show nI 4 = 4 from rfl), if_pos (show nI 4 = 4 from rfl)]
              obtain ⟨c, k1, k2⟩ := ot_C h1 hi (w := nI i) (pu_nI9 (by omega))
              have k3 : ¬ now (14 + i) = nI i := by
                rcases a6 with w | ⟨j, hj, hji, w⟩
                · rw [w]; exact fun z => pu_nI9 (k := i) (by omega) z.symm
                · rw [w]; exact pu_ne (by omega) (by omega) hji
              rw [if_neg k3] at k2
              rw [mv_C h1, k1, ← k2]
              exact ⟨_, _, _, rfl, rfl⟩
            · rw [if_neg (show ¬ nI 5 = 1 by decide), if_neg (show ¬ nI 5 = 1 by decide), if_neg (show ¬ nI 5 = 2 by decide), if_neg (show ¬ nI 5 = 2 by decide), if_neg (show ¬ nI 5 = 3 by decide), if_neg (show ¬ nI 5 = 3 by decide), if_neg (show ¬ nI 5 = 4 by decide), if_neg (show ¬ nI 5 = 4 by decide), st_tE, tt_eq h1 h2, Option.bind_some, Option.bind_some]
              obtain ⟨w, hw, ew⟩ := tb_eq (st D) (((1 : Int32) <<< (nI i &&& (31 : Int32))) ^^^ (-1 : Int32))
              rw [ew, (bc_eq w hw).1]
              exact ⟨_, _, _, rfl, rfl⟩
  · rw [e1, e2, if_pos p00, if_pos p00]; exact ⟨_, _, _, rfl, rfl⟩
end
