/-! PURE PART: the calls on TS, one by one -/
section
variable {R A : Nat} {kinds strengths moved needs forbids m : Nat → Int32}
/-- what a state is worth: beyond the ropes there is no strain -/
theorem V_of (hRS : pu_RS R A kinds strengths moved needs forbids m) {s : Int64} (hz : ∀ j, R ≤ j → j < 6 → sv s j = 0) : pu_V R A kinds strengths moved needs forbids s := by
  have hR := hRS.1
  refine ⟨fun j => if j < 76 then m j else if j < 82 then M_X5_strain s (nI (j - 76)) else if j = 82 then M_X5_letGo s else if j = 83 then M_X5_parted s else M_X5_frostIn s, hRS.of (fun j hj => if_pos (by omega)), fun i hi => ?_, fun i h1 h2 => sv_0.mp (hz i h1 h2), ?_, ?_, ?_⟩
  · show (if 76 + i < 76 then _ else if 76 + i < 82 then M_X5_strain s (nI (76 + i - 76)) else _) = _
    rw [if_neg (by omega), if_pos (by omega), Nat.add_sub_cancel_left]
  · rfl
  · rfl
  · rfl
theorem V_z {s : Int64} (hV : pu_V R A kinds strengths moved needs forbids s) {j : Nat} (h : R ≤ j) (h6 : j < 6) : sv s j = 0 := by
  obtain ⟨m, -, h2⟩ := hV
  exact sv_0.mpr (h2.2.1 j h h6)
theorem V_R {s : Int64} (hV : pu_V R A kinds strengths moved needs forbids s) : R ≤ 6 ∧ A ≤ 4 := by
  obtain ⟨m, h1, -⟩ := hV
  exact ⟨h1.1, h1.2.1⟩
theorem V_to {s s' : Int64} (hV : pu_V R A kinds strengths moved needs forbids s) (h : ∀ j, R ≤ j → j < 6 → sv s' j = sv s j ∨ sv s' j = 0) : pu_V R A kinds strengths moved needs forbids s' := by
  have hz := fun j h h6 => V_z hV (j := j) h h6
  obtain ⟨m, h1, -⟩ := hV
  refine V_of h1 (fun j q1 q2 => ?_)
  rcases h j q1 q2 with e | e
  · rw [e]; exact hz j q1 q2
  · exact e
theorem V_hx {s s' : Int64} {c c' : Int32} (hV : pu_V R A kinds strengths moved needs forbids s) (h : hx R kinds strengths s c s' c') : pu_V R A kinds strengths moved needs forbids s' := by
  have hR := (V_R hV).1
  refine V_to hV (fun j h1 h2 => .inl (h.2.2.2.2.1 j h2 ?_))
  cases hc : bt c j
  · refine .inr ?_
    cases hc' : bt c' j
    · rfl
    · exact absurd (h.2.2.2.1 j (by omega) hc hc').1 (by omega)
  · exact .inl rfl
theorem V_hS {s : Int64} (hV : pu_V R A kinds strengths moved needs forbids s) {i v : Nat} (hi : i < R) (f1 : bl s (24 + i) = false) (f2 : bl s (30 + i) = false) (h0 : 0 < v) (hv : v < 50) : pu_V R A kinds strengths moved needs forbids (hS R kinds strengths moved s i v) := by
  have hV' := hV
  obtain ⟨m, h1, -⟩ := hV'
  exact V_hx hV (hx_H h1 hi f1 f2 h0 hv).2.1
theorem V_lg {s : Int64} (hV : pu_V R A kinds strengths moved needs forbids s) {i : Nat} (hi : i < 6) : pu_V R A kinds strengths moved needs forbids (M_X5_afterLetGo s (nI i)) := V_to hV (fun j _ h2 => by
  by_cases e : j = i
  · subst e; exact .inr (sv_0.mpr (lg_self s hi))
  · exact .inl (sv_eq (lg_other s hi h2 e)))
theorem V_mo {s : Int64} (hV : pu_V R A kinds strengths moved needs forbids s) {i : Nat} (hi : i < 6) : pu_V R A kinds strengths moved needs forbids (M_X5_afterMadeOff s (nI i)) := V_to hV (fun j _ h2 => .inl (sv_eq (mo_strain s hi h2)))
theorem V_sp {s : Int64} (hV : pu_V R A kinds strengths moved needs forbids s) {i : Nat} (hi : i < 6) : pu_V R A kinds strengths moved needs forbids (M_X5_afterSpliced s (nI i)) := V_to hV (fun j _ h2 => by
  by_cases e : j = i
  · subst e; exact .inr (sv_0.mpr (sp_self s hi))
  · exact .inl (sv_eq (sp_other s hi h2 e)))
theorem V_af {s : Int64} (hV : pu_V R A kinds strengths moved needs forbids s) (v : Int32) : pu_V R A kinds strengths moved needs forbids (M_X5_afterFrost s v) := V_to hV (fun j _ h2 => .inl (sv_eq (af_strain s h2 v)))
theorem sv_ap {s : Int64} (set : Int32) {j : Nat} (hj : j < 6) : sv (ap s set) j = if bt set j then 0 else sv s j := by
  unfold sv
  rw [ap_strain s set hj]
  cases bt set j <;> rfl
theorem V_ap {s : Int64} (hV : pu_V R A kinds strengths moved needs forbids s) (set : Int32) : pu_V R A kinds strengths moved needs forbids (ap s set) := V_to hV (fun j _ h2 => by
  rw [sv_ap set h2]
  cases bt set j
  · exact .inl rfl
  · exact .inr rfl)
theorem V_all {s : Int64} (hV : pu_V R A kinds strengths moved needs forbids s) {j : Nat} (hj : j < 32) (h : R ≤ j) : bt (tautF s) j = false := by
  obtain ⟨m, h1, h2⟩ := hV
  exact tt_all h1 h2 hj h
theorem V_law {s : Int64} (hV : pu_V R A kinds strengths moved needs forbids s) : M_X2_lawfulActs (nI R) (nI A) needs forbids s = some (lawF R A needs forbids (tautF s)) := by
  obtain ⟨m, h1, h2⟩ := hV
  exact lw_A h1 h2
theorem V_lawb {s : Int64} (hV : pu_V R A kinds strengths moved needs forbids s) : (∀ j, j < 32 → bt (lawF R A needs forbids (tautF s)) j = (decide (j < A) && law1 R needs forbids (tautF s) j)) ∧ ∃ v, v < 64 ∧ lawF R A needs forbids (tautF s) = nI v := by
  have hV' := hV
  obtain ⟨m, h1, h2⟩ := hV'
  exact (lw_C h1 (fun j hj h => V_all hV hj h)).2.2
end
section
variable {R A D : Nat} {kinds strengths moved needs forbids : Nat → Int32} {Y : x_Y} {lf : Int32} {la : Int32} {up : Int64} {lo : Int64} {rsz : Nat → Int32} {rpl : Nat → Nat → Int32} {st : Nat → Int64} {ks : Nat → Nat → Int64} {kz : Nat → Int32} {fc : Nat → Int32} {rch : Int32} {tr : Nat → Int32}
theorem t_asked : M_LR_asked (TS Y R A kinds strengths moved needs forbids lf la up lo rsz rpl st (nI D) ks kz fc rch tr) = some la := rfl
theorem t_upper : M_LR_upper (TS Y R A kinds strengths moved needs forbids lf la up lo rsz rpl st (nI D) ks kz fc rch tr) = some up := rfl
theorem t_lower : M_LR_lower (TS Y R A kinds strengths moved needs forbids lf la up lo rsz rpl st (nI D) ks kz fc rch tr) = some lo := rfl
theorem t_c2 (hD : D ≤ 40) : M_LR_count (TS Y R A kinds strengths moved needs forbids lf la up lo rsz rpl st (nI D) ks kz fc rch tr) (2 : Int32) = some (nI D) := by
  rw [b_count]; unfold M_X6_count M_X0_deeds
  rw [if_neg (show ¬ (2 : Int32) < 0 by decide), if_pos (show (2 : Int32) ≤ 12 by decide), now_C hD, Option.bind_some]
  rfl
theorem t_c3 (hD : D ≤ 40) : M_LR_count (TS Y R A kinds strengths moved needs forbids lf la up lo rsz rpl st (nI D) ks kz fc rch tr) (3 : Int32) = some (M_X5_frostIn (st D)) := by
  rw [b_count]; unfold M_X6_count
  rw [if_neg (show ¬ (3 : Int32) < 0 by decide), if_pos (show (3 : Int32) ≤ 12 by decide), now_C hD, Option.bind_some]
  rfl
theorem t_c4 (hD : D ≤ 40) : M_LR_count (TS Y R A kinds strengths moved needs forbids lf la up lo rsz rpl st (nI D) ks kz fc rch tr) (4 : Int32) = some (tautF (st D)) := by
  rw [b_count]; unfold M_X6_count
  rw [if_neg (show ¬ (4 : Int32) < 0 by decide), if_pos (show (4 : Int32) ≤ 12 by decide), now_C hD, Option.bind_some, st_tE]
  rfl
theorem t_c5 (hD : D ≤ 40) : M_LR_count (TS Y R A kinds strengths moved needs forbids lf la up lo rsz rpl st (nI D) ks kz fc rch tr) (5 : Int32) = some (M_X5_letGo (st D)) := by
  rw [b_count]; unfold M_X6_count
  rw [if_neg (show ¬ (5 : Int32) < 0 by decide), if_pos (show (5 : Int32) ≤ 12 by decide), now_C hD, Option.bind_some]
  rfl
theorem t_c6 (hD : D ≤ 40) : M_LR_count (TS Y R A kinds strengths moved needs forbids lf la up lo rsz rpl st (nI D) ks kz fc rch tr) (6 : Int32) = some (M_X5_parted (st D)) := by
  rw [b_count]; unfold M_X6_count
  rw [if_neg (show ¬ (6 : Int32) < 0 by decide), if_pos (show (6 : Int32) ≤ 12 by decide), now_C hD, Option.bind_some]
  rfl
def smF (s : Int64) : Nat → Nat
  | 0 => 0
  | k + 1 => smF s k + sv s k
theorem smF_le (s : Int64) : ∀ k, smF s k ≤ 16 * k := by
  intro k
  induction k with
  | zero => exact Nat.le_refl _
  | succ k ih => have := sv_lt s k; show smF s k + sv s k ≤ _; omega
theorem as_E (s : Int64) : M_X5_allStrains s = some (nI (smF s 6)) := by
  unfold M_X5_allStrains
  exact pu_lp (fun n k x => M_X5_allStrains_b4 n s x (nI k) = some (nI (smF s 6))) (fun k x => x = nI (smF s k)) 6 (by omega)
    (fun n x h => by rw [M_X5_allStrains_b4, if_pos (by decide), h])
    (fun n k x hk h ih => by
      rw [M_X5_allStrains_b4, if_neg (gN 6 hk), h, sv_e, nI_add, nI_1]
      exact ih _ rfl)
    0 rfl
theorem t_c7 (hD : D ≤ 40) : M_LR_count (TS Y R A kinds strengths moved needs forbids lf la up lo rsz rpl st (nI D) ks kz fc rch tr) (7 : Int32) = some (nI (smF (st D) 6)) := by
  rw [b_count]; unfold M_X6_count
  rw [if_neg (show ¬ (7 : Int32) < 0 by decide), if_pos (show (7 : Int32) ≤ 12 by decide), now_C hD, Option.bind_some, as_E]
  rfl
theorem t_lawful (hD : D ≤ 40) (h0 : 0 < R) (hV : pu_V R A kinds strengths moved needs forbids (st D)) : M_LR_lawful (TS Y R A kinds strengths moved needs forbids lf la up lo rsz rpl st (nI D) ks kz fc rch tr) = some (lawF R A needs forbids (tautF (st D))) := by
  have hR := (V_R hV).1
  rw [b_lawful]; unfold M_X6_lawful M_X2_isEmpty
  rw [if_neg (eN 0 (by omega) (by omega)), if_pos rfl, now_C hD, Option.bind_some, V_law hV]
  rfl
/-! told of a rope -/
theorem t_rope (hD : D ≤ 40) (hR : R ≤ 6) {i : Nat} (hi : i < R) {k v : Int32} (h0 : ¬ k < 0) (h5 : k ≤ 5) (hd : M_X6_detail st (nI D) (nI R) kinds strengths moved (nI i) k = some v) : M_L_told (TS Y R A kinds strengths moved needs forbids lf la up lo rsz rpl st (nI D) ks kz fc rch tr) (nI i) k = some (v, (TS Y R A kinds strengths moved needs forbids lf v up lo rsz rpl st (nI D) ks kz fc rch tr)) := by
  unfold M_L_told
  rw [b_rope]; unfold M_X6_rope
  rw [rs_isRope hR hi, if_neg (by decide), if_neg h0, if_pos h5, hd]
  rfl
theorem t_told3 (hD : D ≤ 40) (hR : R ≤ 6) {i : Nat} (hi : i < R) : M_L_told (TS Y R A kinds strengths moved needs forbids lf la up lo rsz rpl st (nI D) ks kz fc rch tr) (nI i) (3 : Int32) = some (nI (sv (st D) i), (TS Y R A kinds strengths moved needs forbids lf (nI (sv (st D) i)) up lo rsz rpl st (nI D) ks kz fc rch tr)) := by
  refine t_rope hD hR hi (by decide) (by decide) ?_
  unfold M_X6_detail
  rw [now_C hD, Option.bind_some, ← sv_e]
  rfl
theorem t_told1 (hD : D ≤ 40) {m : Nat → Int32} (hRS : pu_RS R A kinds strengths moved needs forbids m) {i : Nat} (hi : i < R) : M_L_told (TS Y R A kinds strengths moved needs forbids lf la up lo rsz rpl st (nI D) ks kz fc rch tr) (nI i) (1 : Int32) = some (nI (hd R kinds strengths i), (TS Y R A kinds strengths moved needs forbids lf (nI (hd R kinds strengths i)) up lo rsz rpl st (nI D) ks kz fc rch tr)) := by
  refine t_rope hD hRS.1 hi (by decide) (by decide) ?_
  unfold M_X6_detail
  rw [now_C hD, Option.bind_some, (hd_e hRS hi).1]
  rfl
theorem t_told4 (hD : D ≤ 40) (hR : R ≤ 6) {i : Nat} (hi : i < R) : M_L_told (TS Y R A kinds strengths moved needs forbids lf la up lo rsz rpl st (nI D) ks kz fc rch tr) (nI i) (4 : Int32) = some (if bl (st D) (24 + i) then 0 else 1, (TS Y R A kinds strengths moved needs forbids lf (if bl (st D) (24 + i) then 0 else 1) up lo rsz rpl st (nI D) ks kz fc rch tr)) := by
  refine t_rope hD hR hi (by decide) (by decide) ?_
  unfold M_X6_detail
  rw [now_C hD, Option.bind_some, st_isLetGo _ (by omega)]
  cases bl (st D) (24 + i) <;> rfl
theorem t_told5 (hD : D ≤ 40) (hR : R ≤ 6) {i : Nat} (hi : i < R) : M_L_told (TS Y R A kinds strengths moved needs forbids lf la up lo rsz rpl st (nI D) ks kz fc rch tr) (nI i) (5 : Int32) = some (if bl (st D) (30 + i) then 1 else 0, (TS Y R A kinds strengths moved needs forbids lf (if bl (st D) (30 + i) then 1 else 0) up lo rsz rpl st (nI D) ks kz fc rch tr)) := by
  refine t_rope hD hR hi (by decide) (by decide) ?_
  unfold M_X6_detail
  rw [now_C hD, Option.bind_some, st_isParted _ (by omega)]
  cases bl (st D) (30 + i) <;> rfl
/-! hauls -/
def fastB (s : Int64) (i : Nat) : Bool := !(bl s (24 + i) || bl s (30 + i))
theorem fast_T {s : Int64} {i : Nat} (h : fastB s i = true) : bl s (24 + i) = false ∧ bl s (30 + i) = false := by
  unfold fastB at h
  cases h1 : bl s (24 + i) <;> cases h2 : bl s (30 + i) <;> rw [h1, h2] at h <;> first | exact ⟨rfl, rfl⟩ | exact absurd h (by decide)
theorem rf_C (hD : D ≤ 40) (hR : R ≤ 6) {i : Nat} (hi : i < R) : M_X6_refusalOfFast st (nI D) (nI R) (nI i) = some (if fastB (st D) i then 0 else -4) := by
  unfold M_X6_refusalOfFast
  rw [rs_isRope hR hi, if_neg (by decide), now_C hD, Option.bind_some, st_isFast _ (by omega)]
  unfold fastB
  cases (bl (st D) (24 + i) || bl (st D) (30 + i)) <;> rfl
theorem rf_T (hD : D ≤ 40) (hR : R ≤ 6) {i : Nat} (hi : i < R) (hf : fastB (st D) i = true) : M_X6_refusalOfFast st (nI D) (nI R) (nI i) = some 0 := by
  rw [rf_C hD hR hi, hf]; rfl
theorem rf_F (hD : D ≤ 40) (hR : R ≤ 6) {i : Nat} (hi : i < R) (hf : fastB (st D) i = false) : M_X6_refusalOfFast st (nI D) (nI R) (nI i) = some (-4) := by
  rw [rf_C hD hR hi, hf]; rfl
theorem rh_C (hD : D ≤ 40) (hR : R ≤ 6) {i v : Nat} (hi : i < R) (h0 : 0 < v) (hv : v < 10) : M_X6_refusalOfHaul st (nI D) (nI R) (nI i) (nI v) = some (if fastB (st D) i then 0 else -4) := by
  unfold M_X6_refusalOfHaul
  rw [if_neg (tN 1 (by omega) (by omega)), if_pos (aL 9 (by omega)), rf_C hD hR hi]
  rfl
theorem rh_T (hD : D ≤ 40) (hR : R ≤ 6) {i v : Nat} (hi : i < R) (h0 : 0 < v) (hv : v < 10) (hf : fastB (st D) i = true) : M_X6_refusalOfHaul st (nI D) (nI R) (nI i) (nI v) = some 0 := by
  rw [rh_C hD hR hi h0 hv, hf]; rfl
theorem rh_F (hD : D ≤ 40) (hR : R ≤ 6) {i v : Nat} (hi : i < R) (h0 : 0 < v) (hv : v < 10) (hf : fastB (st D) i = false) : M_X6_refusalOfHaul st (nI D) (nI R) (nI i) (nI v) = some (-4) := by
  rw [rh_C hD hR hi h0 hv, hf]; rfl
/-- which rope parts by a haul, -9: none -/
def wh (R : Nat) (kinds strengths moved : Nat → Int32) (s : Int64) (i v : Nat) : Int32 := M_X6_firstParted s (hS R kinds strengths moved s i v)
theorem t_moves (hD : D ≤ 40) {m : Nat → Int32} (hRS : pu_RS R A kinds strengths moved needs forbids m) {i v : Nat} (hi : i < R) (h0 : 0 < v) (hv : v < 10) (hf : fastB (st D) i = true) :
    M_LR_moves (TS Y R A kinds strengths moved needs forbids lf la up lo rsz rpl st (nI D) ks kz fc rch tr) (nI i) (nI v) = some (hC R kinds strengths moved (st D) i v, (TS Y R A kinds strengths moved needs forbids lf (wh R kinds strengths moved (st D) i v) up lo rsz rpl st (nI D) ks kz fc (hC R kinds strengths moved (st D) i v) tr)) := by
  obtain ⟨f1, f2⟩ := fast_T hf
  rw [b_moves]; unfold M_X6_moves
  rw [rh_T hD hRS.1 hi h0 hv hf, Option.bind_some, if_pos rfl, now_C hD, Option.bind_some, (hx_H hRS hi f1 f2 h0 (by omega)).1]
  rfl
theorem t_movesN (hD : D ≤ 40) (hR : R ≤ 6) {i v : Nat} (hi : i < R) (h0 : 0 < v) (hv : v < 10) (hf : fastB (st D) i = false) : M_LR_moves (TS Y R A kinds strengths moved needs forbids lf la up lo rsz rpl st (nI D) ks kz fc rch tr) (nI i) (nI v) = some (-4, (TS Y R A kinds strengths moved needs forbids lf la up lo rsz rpl st (nI D) ks kz fc rch tr)) := by
  rw [b_moves]; unfold M_X6_moves
  rw [rh_F hD hR hi h0 hv hf, Option.bind_some, if_neg (by decide)]
  rfl
theorem t_haul (hD : D < 40) {m : Nat → Int32} (hRS : pu_RS R A kinds strengths moved needs forbids m) {i v : Nat} (hi : i < R) (h0 : 0 < v) (hv : v < 10) (hf : fastB (st D) i = true) :
    M_LR_haul (TS Y R A kinds strengths moved needs forbids lf la up lo rsz rpl st (nI D) ks kz fc rch tr) (nI i) (nI v) = some (if wh R kinds strengths moved (st D) i v = -9 then 0 else 1, (TS Y R A kinds strengths moved needs forbids lf la up lo rsz rpl (vp_updL st (D + 1) (hS R kinds strengths moved (st D) i v)) (nI (D + 1)) ks kz fc (hC R kinds strengths moved (st D) i v) tr)) := by
  obtain ⟨f1, f2⟩ := fast_T hf
  rw [b_haul]; unfold M_X6_haul M_X6_haul_b55
  rw [rh_T (by omega) hRS.1 hi h0 hv hf, Option.bind_some, if_pos rfl, now_C (by omega), Option.bind_some, (hx_H hRS hi f1 f2 h0 (by omega)).1, Option.bind_some]
  show (if wh R kinds strengths moved (st D) i v = -9 then _ else _ : Option _).bind _ = _
  by_cases q : wh R kinds strengths moved (st D) i v = -9
  · rw [if_pos q, if_pos q, done_C hD]; rfl
  · rw [if_neg q, if_neg q, done_C hD]; rfl
theorem t_haulN (hD : D ≤ 40) (hR : R ≤ 6) {i v : Nat} (hi : i < R) (h0 : 0 < v) (hv : v < 10) (hf : fastB (st D) i = false) : M_LR_haul (TS Y R A kinds strengths moved needs forbids lf la up lo rsz rpl st (nI D) ks kz fc rch tr) (nI i) (nI v) = some (-4, (TS Y R A kinds strengths moved needs forbids lf la up lo rsz rpl st (nI D) ks kz fc rch tr)) := by
  rw [b_haul]; unfold M_X6_haul
  rw [rh_F hD hR hi h0 hv hf, Option.bind_some, if_neg (by decide)]
  rfl
theorem t_slack (hD : D < 40) (hR : R ≤ 6) {i : Nat} (hi : i < R) (hf : fastB (st D) i = true) : M_LR_slack (TS Y R A kinds strengths moved needs forbids lf la up lo rsz rpl st (nI D) ks kz fc rch tr) (nI i) = some (nI (sv (st D) i), (TS Y R A kinds strengths moved needs forbids lf la up lo rsz rpl (vp_updL st (D + 1) (M_X5_afterLetGo (st D) (nI i))) (nI (D + 1)) ks kz fc rch tr)) := by
  rw [b_slack]; unfold M_X6_slack
  rw [rf_T (by omega) hR hi hf, Option.bind_some, if_pos rfl, now_C (by omega), Option.bind_some, done_C hD, ← sv_e]
  rfl
theorem t_slackN (hD : D ≤ 40) (hR : R ≤ 6) {i : Nat} (hi : i < R) (hf : fastB (st D) i = false) : M_LR_slack (TS Y R A kinds strengths moved needs forbids lf la up lo rsz rpl st (nI D) ks kz fc rch tr) (nI i) = some (-4, (TS Y R A kinds strengths moved needs forbids lf la up lo rsz rpl st (nI D) ks kz fc rch tr)) := by
  rw [b_slack]; unfold M_X6_slack
  rw [rf_F hD hR hi hf, Option.bind_some, if_neg (by decide)]
  rfl
theorem t_belay (hD : D < 40) (hR : R ≤ 6) {i : Nat} (hi : i < R) (h1 : bl (st D) (30 + i) = false) (h2 : bl (st D) (24 + i) = true) : M_LR_belay (TS Y R A kinds strengths moved needs forbids lf la up lo rsz rpl st (nI D) ks kz fc rch tr) (nI i) = some (M_J6_bitCount_0f7a4 (M_X5_letGo (M_X5_afterMadeOff (st D) (nI i))), (TS Y R A kinds strengths moved needs forbids lf la up lo rsz rpl (vp_updL st (D + 1) (M_X5_afterMadeOff (st D) (nI i))) (nI (D + 1)) ks kz fc rch tr)) := by
  rw [b_belay]; unfold M_X6_belay
  rw [rs_isRope hR hi, if_neg (by decide), now_C (by omega), Option.bind_some, st_isParted _ (by omega), st_isLetGo _ (by omega), h1, h2, if_pos (by decide), if_neg (by decide), done_C hD]
  rfl
theorem t_belayN (hD : D ≤ 40) (hR : R ≤ 6) {i : Nat} (hi : i < R) (h : ¬ (bl (st D) (30 + i) = false ∧ bl (st D) (24 + i) = true)) : M_LR_belay (TS Y R A kinds strengths moved needs forbids lf la up lo rsz rpl st (nI D) ks kz fc rch tr) (nI i) = some (-4, (TS Y R A kinds strengths moved needs forbids lf la up lo rsz rpl st (nI D) ks kz fc rch tr)) := by
  rw [b_belay]; unfold M_X6_belay
  rw [rs_isRope hR hi, if_neg (by decide), now_C (by omega), Option.bind_some, st_isParted _ (by omega), st_isLetGo _ (by omega)]
  cases h1 : bl (st D) (30 + i) <;> cases h2 : bl (st D) (24 + i)
  · rfl
  · exact absurd ⟨h1, h2⟩ h
  · rfl
  · rfl
theorem t_cut (hD : D < 40) (hR : R ≤ 6) {i : Nat} (hi : i < R) (h1 : bl (st D) (30 + i) = false) : M_LR_cut (TS Y R A kinds strengths moved needs forbids lf la up lo rsz rpl st (nI D) ks kz fc rch tr) (nI i) = some (M_J6_bitCount_0f7a4 (M_X5_parted (ap (st D) ((1 : Int32) <<< (nI i &&& 31)))), (TS Y R A kinds strengths moved needs forbids lf la up lo rsz rpl (vp_updL st (D + 1) (ap (st D) ((1 : Int32) <<< (nI i &&& 31)))) (nI (D + 1)) ks kz fc rch tr)) := by
  rw [b_cut]; unfold M_X6_cut
  rw [rs_isRope hR hi, if_neg (by decide), now_C (by omega), Option.bind_some, st_isParted _ (by omega), h1, if_pos (by decide), st_apE, Option.bind_some, done_C hD]
  rfl
theorem t_cutN (hD : D ≤ 40) (hR : R ≤ 6) {i : Nat} (hi : i < R) (h1 : bl (st D) (30 + i) = true) : M_LR_cut (TS Y R A kinds strengths moved needs forbids lf la up lo rsz rpl st (nI D) ks kz fc rch tr) (nI i) = some (-4, (TS Y R A kinds strengths moved needs forbids lf la up lo rsz rpl st (nI D) ks kz fc rch tr)) := by
  rw [b_cut]; unfold M_X6_cut
  rw [rs_isRope hR hi, if_neg (by decide), now_C (by omega), Option.bind_some, st_isParted _ (by omega), h1, if_neg (by decide)]
  rfl
theorem t_splice (hD : D < 40) (hR : R ≤ 6) {i : Nat} (hi : i < R) (h1 : bl (st D) (30 + i) = true) : M_LR_splice (TS Y R A kinds strengths moved needs forbids lf la up lo rsz rpl st (nI D) ks kz fc rch tr) (nI i) = some (M_J6_bitCount_0f7a4 (M_X5_parted (M_X5_afterSpliced (st D) (nI i))), (TS Y R A kinds strengths moved needs forbids lf la up lo rsz rpl (vp_updL st (D + 1) (M_X5_afterSpliced (st D) (nI i))) (nI (D + 1)) ks kz fc rch tr)) := by
  rw [b_splice]; unfold M_X6_splice
  rw [rs_isRope hR hi, if_neg (by decide), now_C (by omega), Option.bind_some, st_isParted _ (by omega), h1, if_neg (by decide), done_C hD]
  rfl
theorem t_spliceN (hD : D ≤ 40) (hR : R ≤ 6) {i : Nat} (hi : i < R) (h1 : bl (st D) (30 + i) = false) : M_LR_splice (TS Y R A kinds strengths moved needs forbids lf la up lo rsz rpl st (nI D) ks kz fc rch tr) (nI i) = some (-4, (TS Y R A kinds strengths moved needs forbids lf la up lo rsz rpl st (nI D) ks kz fc rch tr)) := by
  rw [b_splice]; unfold M_X6_splice
  rw [rs_isRope hR hi, if_neg (by decide), now_C (by omega), Option.bind_some, st_isParted _ (by omega), h1, if_pos (by decide)]
  rfl
theorem fr_C {z : Int32} (hR : R ≤ 6) (h0 : 0 < R) {v : Nat} (hv : v < 2) : M_X6_frost (nI R) st z (nI v) = M_X6_frost_b11 (nI R) st z (nI v) := by
  unfold M_X6_frost
  rcases (show v = 0 ∨ v = 1 by omega) with rfl | rfl
  · rfl
  · rfl
theorem t_frost (hD : D < 40) (hR : R ≤ 6) (h0 : 0 < R) {v : Nat} (hv : v < 2) (h : ¬ M_X5_frostIn (st D) = nI v) : M_LR_frost (TS Y R A kinds strengths moved needs forbids lf la up lo rsz rpl st (nI D) ks kz fc rch tr) (nI v) = some (nI v, (TS Y R A kinds strengths moved needs forbids lf la up lo rsz rpl (vp_updL st (D + 1) (M_X5_afterFrost (st D) (nI v))) (nI (D + 1)) ks kz fc rch tr)) := by
  rw [b_frost, fr_C hR h0 hv]; unfold M_X6_frost_b11 M_X2_isEmpty
  rw [now_C (by omega), Option.bind_some, if_neg (eN 0 (by omega) (by omega)), if_pos rfl, if_neg h, done_C hD]
  rfl
theorem t_frostN (hD : D ≤ 40) (hR : R ≤ 6) (h0 : 0 < R) {v : Nat} (hv : v < 2) (h : M_X5_frostIn (st D) = nI v) : M_LR_frost (TS Y R A kinds strengths moved needs forbids lf la up lo rsz rpl st (nI D) ks kz fc rch tr) (nI v) = some (-4, (TS Y R A kinds strengths moved needs forbids lf la up lo rsz rpl st (nI D) ks kz fc rch tr)) := by
  rw [b_frost, fr_C hR h0 hv]; unfold M_X6_frost_b11 M_X2_isEmpty
  rw [now_C (by omega), Option.bind_some, if_neg (eN 0 (by omega) (by omega)), if_pos rfl, if_pos h]
  rfl
theorem t_undo {n : Nat} (hD : D ≤ 40) (hn : n ≤ D) : M_LR_undo (TS Y R A kinds strengths moved needs forbids lf la up lo rsz rpl st (nI D) ks kz fc rch tr) (nI n) = some (nI (D - n), (TS Y R A kinds strengths moved needs forbids lf la up lo rsz rpl st (nI n) ks kz fc rch tr)) := by
  rw [b_undo]; unfold M_X6_undo M_X0_deeds M_X0_goBack
  rw [if_neg (nI_pos (by omega)), if_pos (pu_le (by omega) (by omega) hn), if_neg (nI_pos (by omega)), if_neg (pu_nlt (by omega) (by omega) hn), pk_sub hn]
/-! keeping and going on -/
theorem t_keep (hD : D ≤ 40) (hR : R ≤ 6) (h0 : 0 < R) : ∃ ks', M_LR_keep (TS Y R A kinds strengths moved needs forbids lf la up lo rsz rpl st (nI D) ks kz fc rch tr) (0 : Int32) = some (nI D, (TS Y R A kinds strengths moved needs forbids lf la up lo rsz rpl st (nI D) ks' (upd kz 0 (nI D)) fc rch tr)) ∧ ∀ d, d ≤ D → ks' 0 d = st d := by
  have key : ∃ ks', M_X0_store_b10 st (nI D) x_fuel ks kz 0 0 = some (ks', upd kz 0 (nI D)) ∧ ∀ d, d ≤ D → ks' 0 d = st d :=
    pu_lp (fun n k (x : Nat → Nat → Int64) => ∃ ks', M_X0_store_b10 st (nI D) n x kz 0 (nI k) = some (ks', upd kz 0 (nI D)) ∧ ∀ d, d ≤ D → ks' 0 d = st d)
      (fun k x => ∀ d, d < k → x 0 d = st d) (D + 1) (by omega)
      (fun n x h => ⟨x, by
        rw [M_X0_store_b10, if_pos (pu_lt (by omega) (by omega) (by omega))]
        unfold M_X0_store_b44
        rw [if_pos (by decide)]
        rfl, fun d hd => h d (by omega)⟩)
      (fun n k x hk h ih => by
        rw [M_X0_store_b10, if_neg (pu_nlt (by omega) (by omega) (by omega)), if_neg (rN 40 (by omega)), if_pos (by decide), if_pos (pu_inb (by omega) (by omega)), nI_clamp (by omega), nI_1]
        refine ih _ (fun d hd => ?_)
        show upd2 x 0 (vp_updL (x 0) k (st k)) 0 d = st d
        rw [pu_2s]
        by_cases e : d = k
        · subst e; exact pk_uLs
        · rw [pk_uLn e]; exact h d (by omega))
      ks (fun d hd => absurd hd (by omega))
  obtain ⟨ks', k1, k2⟩ := key
  refine ⟨ks', ?_, k2⟩
  rw [b_keep]; unfold M_X6_keep M_X2_isEmpty M_X0_store M_X0_deeds
  rw [if_neg (by decide), if_neg (eN 0 (by omega) (by omega)), if_pos rfl, if_neg (by decide), k1]
  rfl
theorem t_on {D0 : Nat} (hD0 : D0 ≤ 40) (hk : kz 0 = nI D0) : ∃ st', M_LR_on (TS Y R A kinds strengths moved needs forbids lf la up lo rsz rpl st (nI D) ks kz fc rch tr) (0 : Int32) = some (nI D0, (TS Y R A kinds strengths moved needs forbids lf la up lo rsz rpl st' (nI D0) ks kz fc rch tr)) ∧ ∀ d, d ≤ D0 → st' d = ks 0 d := by
  have key : ∃ st', M_X0_restore_b30 ks kz x_fuel st (nI D0) 0 0 = some (st', nI D0) ∧ ∀ d, d ≤ D0 → st' d = ks 0 d :=
    pu_lp (fun n k (x : Nat → Int64) => ∃ st', M_X0_restore_b30 ks kz n x (nI D0) 0 (nI k) = some (st', nI D0) ∧ ∀ d, d ≤ D0 → st' d = ks 0 d)
      (fun k x => ∀ d, d < k → x d = ks 0 d) (D0 + 1) (by omega)
      (fun n x h => ⟨x, by rw [M_X0_restore_b30, if_pos (pu_lt (by omega) (by omega) (by omega))], fun d hd => h d (by omega)⟩)
      (fun n k x hk h ih => by
        rw [M_X0_restore_b30, if_neg (pu_nlt (by omega) (by omega) (by omega)), if_neg (rN 40 (by omega)), if_pos (by decide), if_pos (pu_inb (by omega) (by omega)), nI_clamp (by omega), nI_1]
        refine ih _ (fun d hd => ?_)
        by_cases e : d = k
        · subst e; exact pk_uLs
        · rw [pk_uLn e]; exact h d (by omega))
      st (fun d hd => absurd hd (by omega))
  obtain ⟨st', k1, k2⟩ := key
  refine ⟨st', ?_, k2⟩
  rw [b_on]; unfold M_X6_on M_X0_deedsKept M_X0_restore M_X0_deeds
  rw [if_neg (by decide), if_neg (by decide), if_pos (by decide), Option.bind_some]
  show ((if kz 0 = -1 then _ else _ : Option _)).bind _ = _
  rw [if_neg (by rw [hk]; exact pu_nI1 (by omega)), if_neg (by decide), if_pos (by decide)]
  show ((if kz 0 = -1 then some (st, nI D) else M_X0_restore_b30 ks kz x_fuel st (kz 0) 0 0 : Option _).bind _).bind _ = _
  rw [if_neg (by rw [hk]; exact pu_nI1 (by omega)), hk, k1]
  rfl
theorem t_onN (hk : kz 0 = -1) : ∃ lf' fc', M_LR_on (TS Y R A kinds strengths moved needs forbids lf la up lo rsz rpl st (nI D) ks kz fc rch tr) (0 : Int32) = some (-3, (TS Y R A kinds strengths moved needs forbids lf' la up lo rsz rpl st (nI D) ks kz fc' rch tr)) := by
  refine ⟨1, upd fc 1 (fc 1 + 1), ?_⟩
  rw [b_on]; unfold M_X6_on M_X0_deedsKept
  rw [if_neg (by decide), if_neg (by decide), if_pos (by decide), Option.bind_some]
  show ((if kz 0 = -1 then _ else _ : Option _)).bind _ = _
  rw [if_pos hk]
  rfl
end
