/-! THE LAW, from its end: what was done is undone -/
def HB (R A D0 : Nat) (kinds strengths moved needs forbids row row' : Nat → Int32) (Y : x_Y) (ks : Nat → Nat → Int64) (kz : Nat → Int32) : Prop :=
  LW R A row ∧ pu_RS R A kinds strengths moved needs forbids row' ∧ (∀ j, (j < 14 ∨ 20 ≤ j) → row' j = row j) ∧ D0 ≤ 9 ∧ kz 0 = nI D0 ∧ Y.1 0 = nI (2 + 4 * R + 5 * A) ∧ zk 4 60 Y.1 ∧ TX R A row (Y.2.1 0) ∧
  pu_V R A kinds strengths moved needs forbids (ks 0 D0) ∧ GS R kinds strengths (ks 0 D0) ∧ M_X5_parted (ks 0 0) = 0 ∧ M_X5_frostIn (ks 0 0) = row 26
theorem lg64 (s : Int64) : ∃ v, v < 64 ∧ M_X5_letGo s = nI v := b_m63 _
theorem pt64 (s : Int64) : ∃ v, v < 64 ∧ M_X5_parted s = nI v := b_m63 _
section
variable {R A D : Nat} {kinds strengths moved needs forbids : Nat → Int32} {Y : x_Y} {lf : Int32} {la : Int32} {up : Int64} {lo : Int64} {rsz : Nat → Int32} {rpl : Nat → Nat → Int32} {st : Nat → Int64} {ks : Nat → Nat → Int64} {kz : Nat → Int32} {fc : Nat → Int32} {rch : Int32} {tr : Nat → Int32}
variable {D0 L : Nat} {xs row row' sc : Nat → Int32}
theorem L_fin (hB : HB R A D0 kinds strengths moved needs forbids row row' Y ks kz) (hz : zk 6 40 rsz) (hst : ∀ d, d ≤ D0 → st d = ks 0 d) (fu : Nat) (was ptd : Nat → Int32) (x32 : Int32) :
    M_L_law_b2246 xs L (fu + 1) row' (TS Y R A kinds strengths moved needs forbids lf la up lo rsz rpl st (nI D0) ks kz fc rch tr) sc was ptd (nI R) (nI D0) (M_X5_frostIn (ks 0 D0)) x32 (-1) = some () := by
  obtain ⟨hL, hRS, hrow, hD0, hk, hY0, hY1, hY2, hV, hG, hp0, hf0⟩ := hB
  obtain ⟨v, hv⟩ := t_digest (Y := Y) (rsz := rsz) (rpl := rpl) (kz := kz) (D := D0) (s := ks 0 D0) (by omega) hV hz hY1
  rw [M_L_law_b2246, if_pos (by decide), hv st lf la up lo ks fc rch tr (hst D0 (Nat.le_refl _)), Option.bind_some, t_c3 (by omega), Option.bind_some, hst D0 (Nat.le_refl _), if_pos rfl]
  show Option.bind (M_LR_undo (TS Y R A kinds strengths moved needs forbids lf la up lo rsz rpl st (nI D0) ks kz fc rch tr) (nI 0)) _ = some ()
  rw [t_undo (D := D0) (n := 0) (by omega) (by omega), Option.bind_some]
  dsimp only
  rw [Nat.sub_zero, if_pos rfl, t_c6 (D := 0) (by omega), Option.bind_some, hst 0 (by omega), hp0, if_pos rfl, t_c3 (D := 0) (by omega), Option.bind_some, hst 0 (by omega), hf0, hrow 26 (by omega), if_pos rfl]
  obtain ⟨st', o1, o2⟩ := t_on (Y := Y) (R := R) (A := A) (kinds := kinds) (strengths := strengths) (moved := moved) (needs := needs) (forbids := forbids) (lf := lf) (la := la) (up := up) (lo := lo) (rsz := rsz) (rpl := rpl) (st := st) (D := 0) (ks := ks) (fc := fc) (rch := rch) (tr := tr) (D0 := D0) (by omega) hk
  rw [o1, Option.bind_some]
  dsimp only
  rw [if_pos rfl, hv st' lf la up lo ks fc rch tr (o2 D0 (Nat.le_refl _)), Option.bind_some, if_pos ((lg_cmp_eq _ _).mpr rfl)]
  obtain ⟨Y', ki, sr, mo, ne, fo, s, kz', c1, c2, c3, c4, c5⟩ := t_court (TS Y R A kinds strengths moved needs forbids lf la up lo rsz rpl st' (nI D0) ks kz fc rch tr) hL hY2 hY0
  rw [c1, Option.bind_some]
  dsimp only
  rw [if_pos rfl]
  obtain ⟨lf', fc', n1⟩ := t_onN (Y := Y') (R := R) (A := A) (kinds := ki) (strengths := sr) (moved := mo) (needs := ne) (forbids := fo) (lf := lf) (la := la) (up := up) (lo := lo) (rsz := rsz) (rpl := rpl) (st := vp_updL st' 0 s) (D := 0) (ks := ks) (kz := kz') (fc := fc) (rch := 0) (tr := tr) (c3 0 (by omega))
  show Option.bind (M_LR_on (TS Y' R A ki sr mo ne fo lf la up lo rsz rpl (vp_updL st' 0 s) (nI 0) ks kz' fc 0 tr) (0 : Int32)) _ = some ()
  rw [n1, Option.bind_some]
  dsimp only
  rw [if_pos rfl, t_c2 (D := 0) (by omega), Option.bind_some, if_pos (show nI 0 = 0 from rfl)]
theorem L_2246 (hB : HB R A D0 kinds strengths moved needs forbids row row' Y ks kz) (hz : zk 6 40 rsz) (hst : ∀ d, d ≤ D0 → st d = ks 0 d) {dn : Nat} (hdn : dn ≤ 14) {was ptd : Nat → Int32} (hw : ∀ e, e ≤ dn → was e = tautF (st (D0 + e)) ∧ ptd e = M_X5_parted (st (D0 + e))) :
    ∀ (j fu : Nat), j < fu → j ≤ dn + 1 → M_L_law_b2246 xs L fu row' (TS Y R A kinds strengths moved needs forbids lf la up lo rsz rpl st (nI (D0 + (if j = dn + 1 then dn else j))) ks kz fc rch tr) sc was ptd (nI R) (nI D0) (M_X5_frostIn (ks 0 D0)) (nI dn) (if j = 0 then -1 else nI (j - 1)) = some () := by
  have hD0 : D0 ≤ 9 := hB.2.2.2.1
  intro j
  induction j with
  | zero =>
    intro fu h1 h2
    obtain ⟨fu, rfl⟩ : ∃ q, fu = q + 1 := ⟨fu - 1, by omega⟩
    rw [if_pos rfl, if_neg (by omega), Nat.add_zero]
    exact L_fin hB hz hst fu was ptd (nI dn)
  | succ j ih =>
    intro fu h1 h2
    obtain ⟨fu, rfl⟩ : ∃ q, fu = q + 1 := ⟨fu - 1, by omega⟩
    rw [if_neg (show ¬ j + 1 = 0 by omega), Nat.add_sub_cancel]
    have i1 := ih fu (by omega) (by omega)
    rw [if_neg (show ¬ j = dn + 1 by omega)] at i1
    have em : nI j + (-1 : Int32) = if j = 0 then -1 else nI (j - 1) := by
      by_cases q : j = 0
      · subst q; rw [if_pos rfl]; rfl
      · rw [if_neg q]
        obtain ⟨w, rfl⟩ : ∃ w, j = w + 1 := ⟨j - 1, by omega⟩
        rw [pk_m1, Nat.add_sub_cancel]
    obtain ⟨w1, w2⟩ := hw j (by omega)
    have tail : ∀ a b : Int32, a = b → M_L_law_b2272 xs L (fun (row_c' : (Nat → Int32)) (S' : x_S) (strains_c' : (Nat → Int32)) (was_c' : (Nat → Int32)) (ptd_c' : (Nat → Int32)) (x3' : Int32) (x5' : Int32) (x6' : Int32) (x32' : Int32) (x33' : Int32) => M_L_law_b2246 xs L fu row_c' S' strains_c' was_c' ptd_c' x3' x5' x6' x32' x33') row' (TS Y R A kinds strengths moved needs forbids lf la up lo rsz rpl st (nI (D0 + j)) ks kz fc rch tr) sc was ptd (nI R) (nI D0) (M_X5_frostIn (ks 0 D0)) (nI dn) (nI j) a b = some () := fun a b hab => by
      unfold M_L_law_b2272
      rw [if_pos hab, t_c4 (by omega), Option.bind_some, if_pos (pu_inb (by omega) (by decide)), nI_clamp (by omega), w1, if_pos rfl, t_c6 (by omega), Option.bind_some, w2, if_pos rfl, em]
      exact i1
    have eu : M_LR_undo (TS Y R A kinds strengths moved needs forbids lf la up lo rsz rpl st (nI (D0 + (if j + 1 = dn + 1 then dn else j + 1))) ks kz fc rch tr) (nI D0 + nI j) = some (if j = dn then 0 else 1, (TS Y R A kinds strengths moved needs forbids lf la up lo rsz rpl st (nI (D0 + j)) ks kz fc rch tr)) := by
      rw [nI_add]
      by_cases q : j = dn
      · subst q
        rw [if_pos rfl, if_pos rfl, t_undo (by omega) (by omega), Nat.sub_self]; rfl
      · rw [if_neg (by omega), if_neg q, t_undo (by omega) (by omega), show D0 + (j + 1) - (D0 + j) = 1 by omega]; rfl
    rw [M_L_law_b2246, if_neg (nI_pos (by omega)), eu, Option.bind_some]
    by_cases q : j = dn
    · rw [if_pos (show nI j = nI dn by rw [q])]
      exact tail _ _ (if_pos q)
    · rw [if_neg (pu_ne (by omega) (by omega) q)]
      exact tail _ _ (if_neg q)
/-! what is done at random -/
def AC (R A : Nat) (kinds strengths moved needs forbids : Nat → Int32) (Y : x_Y) (D : Nat) (lf la : Int32) (up lo : Int64) (rsz : Nat → Int32) (rpl : Nat → Nat → Int32) (st : Nat → Int64) (ks : Nat → Nat → Int64) (kz fc : Nat → Int32) (rch : Int32) (tr : Nat → Int32) (X : Option (Int32 × x_S)) : Prop :=
  X = some (-4, (TS Y R A kinds strengths moved needs forbids lf la up lo rsz rpl st (nI D) ks kz fc rch tr)) ∨ ∃ v s' r', v < 1000 ∧ X = some (nI v, (TS Y R A kinds strengths moved needs forbids lf la up lo rsz rpl (vp_updL st (D + 1) s') (nI (D + 1)) ks kz fc r' tr)) ∧ pu_V R A kinds strengths moved needs forbids s'
theorem ac_sl (hD : D < 40) (hV : pu_V R A kinds strengths moved needs forbids (st D)) {i : Nat} (hi : i < R) : AC R A kinds strengths moved needs forbids Y D lf la up lo rsz rpl st ks kz fc rch tr (M_LR_slack (TS Y R A kinds strengths moved needs forbids lf la up lo rsz rpl st (nI D) ks kz fc rch tr) (nI i)) := by
  have hR := (V_R hV).1
  cases hf : fastB (st D) i
  · exact .inl (t_slackN (by omega) hR hi hf)
  · exact .inr ⟨_, _, _, by have := sv_lt (st D) i; omega, t_slack hD hR hi hf, V_lg hV (by omega)⟩
theorem ac_be (hD : D < 40) (hV : pu_V R A kinds strengths moved needs forbids (st D)) {i : Nat} (hi : i < R) : AC R A kinds strengths moved needs forbids Y D lf la up lo rsz rpl st ks kz fc rch tr (M_LR_belay (TS Y R A kinds strengths moved needs forbids lf la up lo rsz rpl st (nI D) ks kz fc rch tr) (nI i)) := by
  have hR := (V_R hV).1
  by_cases hf : bl (st D) (30 + i) = false ∧ bl (st D) (24 + i) = true
  · obtain ⟨v, hv, ev⟩ := lg64 (M_X5_afterMadeOff (st D) (nI i))
    refine .inr ⟨pc (nI v), M_X5_afterMadeOff (st D) (nI i), rch, by have := pc_le6' (nI v); omega, ?_, V_mo hV (show i < 6 by omega)⟩
    rw [t_belay hD hR hi hf.1 hf.2, ev, bcN hv]
  · exact .inl (t_belayN (by omega) hR hi hf)
theorem ac_cu (hD : D < 40) (hV : pu_V R A kinds strengths moved needs forbids (st D)) {i : Nat} (hi : i < R) : AC R A kinds strengths moved needs forbids Y D lf la up lo rsz rpl st ks kz fc rch tr (M_LR_cut (TS Y R A kinds strengths moved needs forbids lf la up lo rsz rpl st (nI D) ks kz fc rch tr) (nI i)) := by
  have hR := (V_R hV).1
  cases hf : bl (st D) (30 + i)
  · obtain ⟨v, hv, ev⟩ := pt64 (ap (st D) ((1 : Int32) <<< (nI i &&& 31)))
    refine .inr ⟨pc (nI v), ap (st D) ((1 : Int32) <<< (nI i &&& 31)), rch, by have := pc_le6' (nI v); omega, ?_, V_ap hV ((1 : Int32) <<< (nI i &&& 31))⟩
    rw [t_cut hD hR hi hf, ev, bcN hv]
  · exact .inl (t_cutN (by omega) hR hi hf)
theorem ac_sp (hD : D < 40) (hV : pu_V R A kinds strengths moved needs forbids (st D)) {i : Nat} (hi : i < R) : AC R A kinds strengths moved needs forbids Y D lf la up lo rsz rpl st ks kz fc rch tr (M_LR_splice (TS Y R A kinds strengths moved needs forbids lf la up lo rsz rpl st (nI D) ks kz fc rch tr) (nI i)) := by
  have hR := (V_R hV).1
  cases hf : bl (st D) (30 + i)
  · exact .inl (t_spliceN (by omega) hR hi hf)
  · obtain ⟨v, hv, ev⟩ := pt64 (M_X5_afterSpliced (st D) (nI i))
    refine .inr ⟨pc (nI v), M_X5_afterSpliced (st D) (nI i), rch, by have := pc_le6' (nI v); omega, ?_, V_sp hV (show i < 6 by omega)⟩
    rw [t_splice hD hR hi hf, ev, bcN hv]
theorem ac_fr (hD : D < 40) (h0 : 0 < R) (hV : pu_V R A kinds strengths moved needs forbids (st D)) {v : Nat} (hv : v < 2) : AC R A kinds strengths moved needs forbids Y D lf la up lo rsz rpl st ks kz fc rch tr (M_LR_frost (TS Y R A kinds strengths moved needs forbids lf la up lo rsz rpl st (nI D) ks kz fc rch tr) (nI v)) := by
  have hR := (V_R hV).1
  by_cases hf : M_X5_frostIn (st D) = nI v
  · exact .inl (t_frostN (by omega) hR h0 hv hf)
  · exact .inr ⟨v, _, _, by omega, t_frost hD hR h0 hv hf, V_af hV (nI v)⟩
theorem ac_ha (hD : D < 40) {m : Nat → Int32} (hRS : pu_RS R A kinds strengths moved needs forbids m) (hV : pu_V R A kinds strengths moved needs forbids (st D)) {i v : Nat} (hi : i < R) (h0 : 0 < v) (hv : v < 10) : AC R A kinds strengths moved needs forbids Y D lf la up lo rsz rpl st ks kz fc rch tr (M_LR_haul (TS Y R A kinds strengths moved needs forbids lf la up lo rsz rpl st (nI D) ks kz fc rch tr) (nI i) (nI v)) := by
  have hR := (V_R hV).1
  cases hf : fastB (st D) i
  · exact .inl (t_haulN (by omega) hR hi h0 hv hf)
  · obtain ⟨f1, f2⟩ := fast_T hf
    refine .inr ⟨if wh R kinds strengths moved (st D) i v = -9 then 0 else 1, hS R kinds strengths moved (st D) i v, hC R kinds strengths moved (st D) i v, by split <;> omega, ?_, V_hS hV hi f1 f2 h0 (show v < 50 by omega)⟩
    rw [t_haul hD hRS hi h0 hv hf]
    by_cases q : wh R kinds strengths moved (st D) i v = -9
    · rw [if_pos q, if_pos q]; rfl
    · rw [if_neg q, if_neg q]; rfl
theorem L_2036 (hL : L ≤ 260) (hB : HB R A D0 kinds strengths moved needs forbids row row' Y ks kz) (hz : zk 6 40 rsz) {ac : Nat} (hac : ac ≤ 14) :
    ∀ (d k fu dn : Nat) (st : Nat → Int64) (rch : Int32) (was ptd : Nat → Int32), k + d = ac → d < fu → dn ≤ k → (∀ d, d ≤ D0 → st d = ks 0 d) → (∀ e, e ≤ dn → was e = tautF (st (D0 + e)) ∧ ptd e = M_X5_parted (st (D0 + e))) → pu_V R A kinds strengths moved needs forbids (st (D0 + dn)) →
      M_L_law_b2036 xs L fu row' (TS Y R A kinds strengths moved needs forbids lf la up lo rsz rpl st (nI (D0 + dn)) ks kz fc rch tr) sc was ptd (nI R) (nI D0) (M_X5_frostIn (ks 0 D0)) (nI ac) (nI dn) (nI k) = some () := by
  have hD0 : D0 ≤ 9 := hB.2.2.2.1
  have hRS := hB.2.1
  have hR1 := hB.1.1
  have hR := hB.1.2.1
  intro d
  induction d with
  | zero =>
    intro k fu dn st rch was ptd h1 h2 h3 h4 h5 h6
    obtain ⟨fu, rfl⟩ : ∃ q, fu = q + 1 := ⟨fu - 1, by omega⟩
    rw [M_L_law_b2036, if_pos (pu_le (by omega) (by omega) (by omega))]
    have := L_2246 (xs := xs) (L := L) (sc := sc) (rpl := rpl) (lf := lf) (la := la) (up := up) (lo := lo) (fc := fc) (rch := rch) (tr := tr) hB hz h4 (dn := dn) (by omega) h5 (dn + 1) x_fuel (by unfold x_fuel; omega) (by omega)
    rw [if_pos rfl, if_neg (by omega), Nat.add_sub_cancel] at this
    exact this
  | succ d ih =>
    intro k fu dn st rch was ptd h1 h2 h3 h4 h5 h6
    obtain ⟨fu, rfl⟩ : ∃ q, fu = q + 1 := ⟨fu - 1, by omega⟩
    obtain ⟨c, ec⟩ := cl_T xs hL (k := 29 + k) (by omega)
    obtain ⟨u1, v1, e1⟩ := up_T c (n := 6) (by decide) (by decide)
    obtain ⟨i, hi, ei⟩ := up_T (c >>> ((3 : Int32) &&& (31 : Int32))) (n := R) (by omega) (by omega)
    obtain ⟨u3, v3, e3⟩ := up_T (c >>> ((6 : Int32) &&& (31 : Int32))) (n := 3) (by decide) (by decide)
    obtain ⟨f, hf, ef⟩ := b_m1e (c >>> ((6 : Int32) &&& (31 : Int32)))
    have tail : ∀ X, AC R A kinds strengths moved needs forbids Y (D0 + dn) lf la up lo rsz rpl st ks kz fc rch tr X → (X.bind fun r => M_L_law_b2169 xs L (fun (row_c' : (Nat → Int32)) (S' : x_S) (strains_c' : (Nat → Int32)) (was_c' : (Nat → Int32)) (ptd_c' : (Nat → Int32)) (x3' : Int32) (x5' : Int32) (x6' : Int32) (x29' : Int32) (x32' : Int32) (x33' : Int32) => M_L_law_b2036 xs L fu row_c' S' strains_c' was_c' ptd_c' x3' x5' x6' x29' x32' x33') row' r.2 sc was ptd (nI R) (nI D0) (M_X5_frostIn (ks 0 D0)) (nI ac) (nI dn) (nI k) r.1) = some () := fun X hX => by
      rcases hX with rfl | ⟨v, s', r', hv, rfl, hs'⟩
      · rw [Option.bind_some]
        unfold M_L_law_b2169 M_L_law_b2202 M_L_law_b2221
        dsimp only
        rw [if_pos rfl, if_neg (by decide), if_pos (by decide), t_c2 (by omega), Option.bind_some, nI_add, if_pos rfl, nI_1]
        exact ih (k + 1) fu dn st rch was ptd (by omega) (by omega) (by omega) h4 h5 h6
      · rw [Option.bind_some]
        have en : ¬ nI v = -4 := fun h => by
          have := congrArg Int32.toInt h
          rw [nI_toInt (by omega)] at this
          have e : ((-4 : Int32)).toInt = -4 := by decide
          omega
        have el : ¬ nI v ≤ -4 := fun h => by
          rw [Int32.le_iff_toInt_le, nI_toInt (by omega)] at h
          have e : ((-4 : Int32)).toInt = -4 := by decide
          omega
        have et : ¬ nI v < -4 := fun h => by
          rw [Int32.lt_iff_toInt_lt, nI_toInt (by omega)] at h
          have e : ((-4 : Int32)).toInt = -4 := by decide
          omega
        unfold M_L_law_b2169 M_L_law_b2202 M_L_law_b2221
        dsimp only
        rw [if_neg en, t_c4 (by omega), Option.bind_some, nI_1, if_pos (pu_inb (by omega) (by decide)), t_c6 (by omega), Option.bind_some, if_neg et, if_neg el, if_neg (nI_pos (by omega)), t_c2 (by omega), Option.bind_some, nI_add, if_pos (by rw [show D0 + dn + 1 = D0 + (dn + 1) by omega]), nI_clamp (by omega), nI_1]
        refine ih (k + 1) fu (dn + 1) _ r' _ _ (by omega) (by omega) (by omega) (fun d hd => by rw [pk_uLn (by omega)]; exact h4 d hd) (fun e he => ?_) (by rw [show D0 + (dn + 1) = D0 + dn + 1 by omega, pk_uLs]; exact hs')
        by_cases q : e = dn + 1
        · subst q
          rw [pu_us, pu_us, show D0 + (dn + 1) = D0 + dn + 1 by omega]
          exact ⟨rfl, rfl⟩
        · rw [pu_un q, pu_un q, pk_uLn (by omega)]
          exact h5 e (by omega)
    have hD : D0 + dn < 40 := by omega
    rw [M_L_law_b2036, if_neg (nI_ge (by omega) (by omega))]
    show Option.bind (M_L_cell xs L (nI 29 + nI k)) _ = some ()
    rw [nI_add, ec, Option.bind_some]
    show Option.bind (M_L_up c (nI 6)) _ = some ()
    rw [e1, Option.bind_some, ei, Option.bind_some]
    by_cases q0 : nI u1 = 0
    · rw [if_pos q0]; exact tail _ (ac_sl hD h6 hi)
    · rw [if_neg q0]
      by_cases q1 : nI u1 = 1
      · rw [if_pos q1]; exact tail _ (ac_be hD h6 hi)
      · rw [if_neg q1]
        by_cases q2 : nI u1 = 2
        · rw [if_pos q2]; exact tail _ (ac_cu hD h6 hi)
        · rw [if_neg q2]
          by_cases q3 : nI u1 = 3
          · rw [if_pos q3]; exact tail _ (ac_sp hD h6 hi)
          · rw [if_neg q3]
            by_cases q4 : nI u1 = 4
            · rw [if_pos q4, ef]; exact tail _ (ac_fr hD (by omega) h6 hf)
            · rw [if_neg q4]
              show Option.bind (M_L_up _ (nI 3)) _ = some ()
              rw [e3, Option.bind_some, show (1 : Int32) + nI u3 = nI (1 + u3) from nI_add 1 u3]
              exact tail _ (ac_ha hD hRS h6 hi (by omega) (by omega))
theorem L_2012 (hL : L ≤ 260) (hB : HB R A D0 kinds strengths moved needs forbids row row' Y ks kz) (hz : zk 6 40 rsz) (hst : ∀ d, d ≤ D0 → st d = ks 0 d) {ac : Nat} (hac : ac ≤ 14) (was : Nat → Int32) :
    M_L_law_b2012 xs L row' (TS Y R A kinds strengths moved needs forbids lf la up lo rsz rpl st (nI D0) ks kz fc rch tr) sc was (nI R) (nI D0) (M_X5_frostIn (ks 0 D0)) (tautF (ks 0 D0)) (M_X5_parted (ks 0 D0)) (nI ac) = some () := by
  unfold M_L_law_b2012 M_L_law_b2018
  have e0 := hst D0 (Nat.le_refl _)
  have := L_2036 (xs := xs) (sc := sc) (rpl := rpl) (lf := lf) (la := la) (up := up) (lo := lo) (fc := fc) (tr := tr) hL hB hz hac ac 0 x_fuel 0 st rch (upd was 0 (tautF (ks 0 D0))) (upd (fun _ => 0) 0 (M_X5_parted (ks 0 D0))) (by omega) (by unfold x_fuel; omega) (by omega) hst (fun e he => by
    obtain rfl : e = 0 := by omega
    rw [pu_us, pu_us, Nat.add_zero, e0]
    exact ⟨rfl, rfl⟩) (by rw [Nat.add_zero, e0]; exact hB.2.2.2.2.2.2.2.2.1)
  exact this
end
