/-! PURE PART: terms by lots; what a state by lots keeps -/
def GS (R : Nat) (kinds strengths : Nat → Int32) (s : Int64) : Prop :=
  (∀ i, i < R → sv s i ≤ hd R kinds strengths i + (if kinds i = 2 then 1 else 0)) ∧ (∀ j, j < 6 → (bl s (24 + j) || bl s (30 + j)) = true → sv s j = 0)
theorem bl_pw {s s' : Int64} {w : Nat} (hw : w < 6) (h : M_X5_parted s' = M_X5_parted s ||| ((1 : Int32) <<< (nI w &&& 31))) {j : Nat} (hj : j < 6) : bl s' (30 + j) = (bl s (30 + j) || decide (j = w)) := by
  have a := st_parted s' (k := j) (by omega)
  rw [h, b_or, st_parted s (by omega), b_sb (by omega) (by omega), decide_eq_true hj, Bool.true_and, Bool.true_and] at a
  exact a.symm
section
variable {R A : Nat} {kinds strengths moved needs forbids m : Nat → Int32} {s : Int64}
theorem GS_hx (hR : R ≤ 6) {s' : Int64} {c' : Int32} (hG : GS R kinds strengths s) (h : hx R kinds strengths s 0 s' c') : GS R kinds strengths s' := by
  obtain ⟨a1, a2, a3, a4, a5, a6, a7⟩ := h
  refine ⟨fun i hi => ?_, fun j hj hb => ?_⟩
  · rcases a6 i hi with e | e
    · rw [e]; exact hG.1 i hi
    · omega
  · have old : (bl s (24 + j) || bl s (30 + j)) = true → sv s' j = 0 := fun ho => by
      rw [a5 j hj (.inr ?_)]
      · exact hG.2 j hj ho
      · cases hc : bt c' j
        · rfl
        · obtain ⟨-, q1, q2⟩ := a4 j (by omega) (b_0 j) hc
          rw [q1, q2] at ho; exact absurd ho (by decide)
    rw [bl_l a1 hj] at hb
    rcases a7 with ⟨p1, -⟩ | ⟨w, w1, -, -, -, w5, w6, -⟩
    · rw [bl_p p1 hj] at hb; exact old hb
    · rw [bl_pw (by omega) w5 hj] at hb
      by_cases e : j = w
      · subst e; exact w6
      · rw [decide_eq_false e, Bool.or_false] at hb; exact old hb
theorem GS_lg (hR : R ≤ 6) (hG : GS R kinds strengths s) {i : Nat} (hi : i < 6) : GS R kinds strengths (M_X5_afterLetGo s (nI i)) := by
  have e0 : sv (M_X5_afterLetGo s (nI i)) i = 0 := sv_0.mpr (lg_self s hi)
  refine ⟨fun j hj => ?_, fun j hj hb => ?_⟩
  · by_cases e : j = i
    · subst e; rw [e0]; exact Nat.zero_le _
    · rw [sv_eq (lg_other s hi (by omega) e)]; exact hG.1 j hj
  · by_cases e : j = i
    · subst e; exact e0
    · rw [sv_eq (lg_other s hi hj e)]
      refine hG.2 j hj ?_
      rw [bl_p (lg_parted s hi) hj, st_lg s hi (by omega), if_neg (by omega), if_neg (by omega)] at hb
      exact hb
theorem GS_mo (hR : R ≤ 6) (hG : GS R kinds strengths s) {i : Nat} (hi : i < 6) : GS R kinds strengths (M_X5_afterMadeOff s (nI i)) := by
  refine ⟨fun j hj => by rw [sv_eq (mo_strain s hi (by omega))]; exact hG.1 j hj, fun j hj hb => ?_⟩
  rw [sv_eq (mo_strain s hi hj)]
  refine hG.2 j hj ?_
  rw [bl_p (mo_parted s hi) hj, st_mo s hi (by omega)] at hb
  by_cases e : j = i
  · rw [if_pos (by omega), Bool.false_or] at hb; rw [hb, Bool.or_true]
  · rw [if_neg (by omega)] at hb; exact hb
theorem GS_sp (hR : R ≤ 6) (hG : GS R kinds strengths s) {i : Nat} (hi : i < 6) : GS R kinds strengths (M_X5_afterSpliced s (nI i)) := by
  have e0 : sv (M_X5_afterSpliced s (nI i)) i = 0 := sv_0.mpr (sp_self s hi)
  refine ⟨fun j hj => ?_, fun j hj hb => ?_⟩
  · by_cases e : j = i
    · subst e; rw [e0]; exact Nat.zero_le _
    · rw [sv_eq (sp_other s hi (by omega) e)]; exact hG.1 j hj
  · by_cases e : j = i
    · subst e; exact e0
    · rw [sv_eq (sp_other s hi hj e)]
      refine hG.2 j hj ?_
      rw [st_sp s hi (by omega), st_sp s hi (by omega), if_neg (by omega), if_neg (by omega), if_neg (by omega), if_neg (by omega)] at hb
      exact hb
theorem GS_af (hR : R ≤ 6) (hG : GS R kinds strengths s) (v : Int32) : GS R kinds strengths (M_X5_afterFrost s v) := by
  refine ⟨fun j hj => by rw [sv_eq (af_strain s (by omega) v)]; exact hG.1 j hj, fun j hj hb => ?_⟩
  rw [sv_eq (af_strain s hj v)]
  refine hG.2 j hj ?_
  rw [bl_p (af_parted s v) hj, bl_l (af_letGo s v) hj] at hb
  exact hb
theorem nx_T {w : Nat} (hw : w < 2 ^ 31) : ∃ w', w' < 2 ^ 31 ∧ ((((48271 : Int64) * (nI w).toInt64) - ((48271 : Int64) * (nI w).toInt64) / (2147483647 : Int64) * (2147483647 : Int64)).toInt32) = nI w' := by
  refine ⟨48271 * w % 2147483647, Nat.lt_trans (Nat.mod_lt _ (by decide)) (by decide), ?_⟩
  have e : (48271 : Int64) * (nI w).toInt64 = lN (48271 * w) := by
    rw [nI_l hw]
    show lN 48271 * lN w = _
    rw [lN_mul]
  rw [e]
  show (lN (48271 * w) - lN (48271 * w) / lN 2147483647 * lN 2147483647).toInt32 = _
  rw [pk_lRem (by omega) (by decide) (by decide), lN_i]
theorem by_T (hRS : pu_RS R A kinds strengths moved needs forbids m) (h0 : 0 < R) (hV : pu_V R A kinds strengths moved needs forbids s) (hG : GS R kinds strengths s) {w : Nat} (hw : w < 2 ^ 31) (rch : Int32) :
    ∃ s' rch', M_X2_byLot (nI R) kinds strengths moved rch s (nI w) = some (s', rch') ∧ pu_V R A kinds strengths moved needs forbids s' ∧ GS R kinds strengths s' := by
  have hR := hRS.1
  have hi : w % R < R := Nat.mod_lt _ h0
  have e1 : nI w - nI w / nI R * nI R = nI (w % R) := pk_rem hw h0 (by omega)
  have e2 : nI w / (8 : Int32) = nI (w / 8) := pk_div (d := 8) hw (by omega) (by omega)
  have e3 : nI w / (64 : Int32) = nI (w / 64) := pk_div (d := 64) hw (by omega) (by omega)
  have e4 : nI (w / 8) - nI (w / 8) / (8 : Int32) * (8 : Int32) = nI (w / 8 % 8) := pk_rem (d := 8) (by omega) (by omega) (by omega)
  have e5 : nI (w / 64) - nI (w / 64) / (4 : Int32) * (4 : Int32) = nI (w / 64 % 4) := pk_rem (d := 4) (by omega) (by omega) (by omega)
  have e6 : (1 : Int32) + nI (w / 64 % 4) = nI (1 + w / 64 % 4) := nI_add 1 _
  have hd : w / 8 % 8 < 8 := Nat.mod_lt _ (by decide)
  have h4 : w / 64 % 4 < 4 := Nat.mod_lt _ (by decide)
  unfold M_X2_byLot
  rw [if_pos (rL 0 h0 (by omega)), if_pos (eN 0 (by omega) (by omega)), e1, e2, e3, e4, e5, e6, st_isParted s (by omega), st_isLetGo s (by omega), st_isFast s (by omega)]
  by_cases q5 : nI (w / 8 % 8) = 5
  · rw [if_pos q5]
    cases hp : bl s (30 + w % R)
    · rw [if_pos (show (if false = true then (1 : Int32) else 0) = 0 by decide)]
      cases hl : bl s (24 + w % R)
      · rw [if_pos (show (if false = true then (1 : Int32) else 0) = 0 by decide)]
        exact ⟨_, _, rfl, V_lg hV (by omega), GS_lg hR hG (by omega)⟩
      · rw [if_neg (show ¬ (if true = true then (1 : Int32) else 0) = 0 by decide)]
        exact ⟨_, _, rfl, V_mo hV (by omega), GS_mo hR hG (by omega)⟩
    · rw [if_neg (show ¬ (if true = true then (1 : Int32) else 0) = 0 by decide)]
      exact ⟨_, _, rfl, hV, hG⟩
  · rw [if_neg q5]
    by_cases q6 : nI (w / 8 % 8) = 6
    · rw [if_pos q6]
      cases hp : bl s (30 + w % R)
      · rw [if_pos (show (if false = true then (1 : Int32) else 0) = 0 by decide)]
        exact ⟨_, _, rfl, hV, hG⟩
      · rw [if_neg (show ¬ (if true = true then (1 : Int32) else 0) = 0 by decide)]
        exact ⟨_, _, rfl, V_sp hV (by omega), GS_sp hR hG (by omega)⟩
    · rw [if_neg q6]
      by_cases q7 : nI (w / 8 % 8) = 7
      · rw [if_pos q7]
        exact ⟨_, _, rfl, V_af hV _, GS_af hR hG _⟩
      · rw [if_neg q7]
        cases hb : (bl s (24 + w % R) || bl s (30 + w % R))
        · rw [if_neg (show ¬ (if false = true then (0 : Int32) else 1) = 0 by decide)]
          rw [Bool.or_eq_false_iff] at hb
          obtain ⟨g1, g2, -⟩ := hx_H hRS hi hb.1 hb.2 (v := 1 + w / 64 % 4) (by omega) (by omega)
          rw [g1, Option.bind_some]
          exact ⟨_, _, rfl, V_hx hV g2, GS_hx hR hG g2⟩
        · rw [if_pos (show (if true = true then (0 : Int32) else 1) = 0 by decide)]
          exact ⟨_, _, rfl, hV, hG⟩
end
section
variable {R A D : Nat} {kinds strengths moved needs forbids : Nat → Int32} {Y : x_Y} {lf : Int32} {la : Int32} {up : Int64} {lo : Int64} {rsz : Nat → Int32} {rpl : Nat → Nat → Int32} {st : Nat → Int64} {ks : Nat → Nat → Int64} {kz : Nat → Int32} {fc : Nat → Int32} {rch : Int32} {tr : Nat → Int32}
variable {m : Nat → Int32}
theorem add_T (hD : D < 40) (s' : Int64) : M_X0_add st (nI D) s' = some (vp_updL st (D + 1) s', nI (D + 1)) := by
  unfold M_X0_add
  rw [if_neg (nI_pos (by omega)), if_neg (gN 40 hD), nI_1, if_pos (pu_inb (by omega) (by omega)), nI_clamp (by omega)]
theorem t_lots (hRS : pu_RS R A kinds strengths moved needs forbids m) (h0 : 0 < R) (hV : pu_V R A kinds strengths moved needs forbids (st 0)) (hG : GS R kinds strengths (st 0)) {n w : Nat} (hn1 : 1 ≤ n) (hn : n ≤ 9) (hw1 : 1 ≤ w) (hw : w ≤ 2000000) :
    ∃ v st' rch', v < 7 ∧ M_LR_lots (TS Y R A kinds strengths moved needs forbids lf la up lo rsz rpl st (nI 0) ks kz fc rch tr) (nI n) (nI w) = some (nI v, (TS Y R A kinds strengths moved needs forbids lf la up lo rsz rpl st' (nI n) ks kz fc rch' tr)) ∧ st' 0 = st 0 ∧ pu_V R A kinds strengths moved needs forbids (st' n) ∧ GS R kinds strengths (st' n) := by
  have hR := hRS.1
  have key : ∃ v st' rch', v < 7 ∧ M_X6_lots_b57 (nI R) (nI A) kinds strengths moved needs forbids x_fuel st (nI 0) rch (nI n) (nI w) (nI 0) = some (nI v, st', nI n, rch') ∧ st' 0 = st 0 ∧ pu_V R A kinds strengths moved needs forbids (st' n) ∧ GS R kinds strengths (st' n) :=
    pu_lp (fun fu k (x : (Nat → Int64) × Int32 × Int32) => ∃ v st' rch', v < 7 ∧ M_X6_lots_b57 (nI R) (nI A) kinds strengths moved needs forbids fu x.1 (nI k) x.2.1 (nI n) x.2.2 (nI k) = some (nI v, st', nI n, rch') ∧ st' 0 = st 0 ∧ pu_V R A kinds strengths moved needs forbids (st' n) ∧ GS R kinds strengths (st' n))
      (fun k x => x.1 0 = st 0 ∧ pu_V R A kinds strengths moved needs forbids (x.1 k) ∧ GS R kinds strengths (x.1 k) ∧ ∃ w, w < 2 ^ 31 ∧ x.2.2 = nI w) n (by omega)
      (fun fu x h => by
        obtain ⟨v, hv, ev⟩ := (V_lawb h.2.1).2
        refine ⟨pc (nI v), x.1, x.2.1, by have := pc_le6' (nI v); omega, ?_, h.1, h.2.1, h.2.2.1⟩
        rw [M_X6_lots_b57, if_pos (pu_le (by omega) (by omega) (Nat.le_refl n)), now_C (by omega), Option.bind_some, V_law h.2.1, Option.bind_some, ev, bcN hv])
      (fun fu k x hk h ih => by
        obtain ⟨h1, h2, h3, w, hw, ew⟩ := h
        obtain ⟨w', hw', ew'⟩ := nx_T hw
        obtain ⟨s', rch', b1, b2, b3⟩ := by_T hRS h0 h2 h3 hw' x.2.1
        rw [M_X6_lots_b57, if_neg (nI_ge hk (by omega))]
        unfold M_X6_lots_b75
        rw [ew, ew', now_C (by omega), Option.bind_some, b1, Option.bind_some, add_T (by omega), Option.bind_some, nI_1]
        refine ih (vp_updL x.1 (k + 1) s', rch', nI w') ⟨?_, ?_, ?_, w', hw', rfl⟩
        · show vp_updL x.1 (k + 1) s' 0 = st 0
          rw [pk_uLn (by omega)]; exact h1
        · show pu_V R A kinds strengths moved needs forbids (vp_updL x.1 (k + 1) s' (k + 1))
          rw [pk_uLs]; exact b2
        · show GS R kinds strengths (vp_updL x.1 (k + 1) s' (k + 1))
          rw [pk_uLs]; exact b3)
      (st, rch, nI w) ⟨rfl, hV, hG, w, by omega, rfl⟩
  obtain ⟨v, st', rch', k0, k1, k2⟩ := key
  refine ⟨v, st', rch', k0, ?_, k2⟩
  rw [b_lots]; unfold M_X6_lots M_X2_isEmpty M_X0_isFull
  rw [if_neg (tN 1 (by omega) (by omega)), if_neg (rN 20 (by omega)), if_neg (tN 1 (by omega) (by omega)), if_pos (aL 2147483646 (by omega)), if_neg (eN 0 (by omega) (by omega)), if_pos rfl, nI_add, if_pos (aL 40 (by omega)), if_pos rfl]
  show (M_X6_lots_b57 (nI R) (nI A) kinds strengths moved needs forbids x_fuel st (nI 0) rch (nI n) (nI w) (nI 0)).bind _ = _
  rw [k1]
  rfl
end
