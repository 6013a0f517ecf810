/-! THE LAW: by what came on, by turns, chances -/
theorem bits_E {x : Int32} (h : ∃ v, v < 64 ∧ x = nI v) : M_L_bits x = some (M_J6_bitCount_0f7a4 x) := by
  obtain ⟨v, hv, rfl⟩ := h
  rw [bits_T v hv, bcN hv]
theorem bit1 {x : Int32} {i : Nat} (hi : i < 32) (h : bt x i = true) : ((x >>> (nI i &&& (31 : Int32))) &&& (1 : Int32)) = 1 := (b_bit1 x hi).mpr h
theorem bit0 {x : Int32} {i : Nat} (hi : i < 32) (h : bt x i = false) : ((x >>> (nI i &&& (31 : Int32))) &&& (1 : Int32)) = 0 := (b_bit x hi).mpr h
theorem bitI (x : Int32) {i : Nat} (hi : i < 32) : ((x >>> (nI i &&& (31 : Int32))) &&& (1 : Int32)) = if bt x i then 1 else 0 := by
  cases h : bt x i
  · exact bit0 hi h
  · exact bit1 hi h
theorem ev_b (s : Int64) : -6 ≤ ev s ∧ ev s ≤ 6 := by
  have := pc_le6' (M_X5_parted s &&& 42)
  have := pc_le6' (M_X5_parted s &&& 21)
  unfold ev
  omega
section
variable {R A D : Nat} {kinds strengths moved needs forbids : Nat → Int32} {Y : x_Y} {lf : Int32} {la : Int32} {up : Int64} {lo : Int64} {rsz : Nat → Int32} {rpl : Nat → Nat → Int32} {st : Nat → Int64} {ks : Nat → Nat → Int64} {kz : Nat → Int32} {fc : Nat → Int32} {rch : Int32} {tr : Nat → Int32}
variable {D0 L : Nat} {xs row row' sc : Nat → Int32}
theorem t_lay3 {z0 i : Nat} (hz : z0 ≤ 40) (h : rsz 3 = nI z0) (hi : i < z0) (v : Int32) : M_LR_lay (TS Y R A kinds strengths moved needs forbids lf la up lo rsz rpl st (nI D) ks kz fc rch tr) (3 : Int32) (nI i) v = some (1, (TS Y R A kinds strengths moved needs forbids lf (rpl 3 i) up lo rsz (upd2 rpl 3 (upd (rpl 3) i v)) st (nI D) ks kz fc rch tr)) := t_layR (r := 3) (by decide) hz h hi v
theorem t_row3 {z0 : Nat} (hz : z0 ≤ 40) : ∃ q, M_LR_row (TS Y R A kinds strengths moved needs forbids lf la up lo rsz rpl st (nI D) ks kz fc rch tr) (3 : Int32) (nI z0) = some (nI z0, (TS Y R A kinds strengths moved needs forbids lf la up lo (upd rsz 3 (nI z0)) (upd2 rpl 3 q) st (nI D) ks kz fc rch tr)) := by
  obtain ⟨q, h, -⟩ := t_row (Y := Y) (R := R) (A := A) (kinds := kinds) (strengths := strengths) (moved := moved) (needs := needs) (forbids := forbids) (lf := lf) (la := la) (up := up) (lo := lo) (rsz := rsz) (rpl := rpl) (st := st) (D := D) (ks := ks) (kz := kz) (fc := fc) (rch := rch) (tr := tr) (r := 3) (by decide) hz
  exact ⟨q, h⟩
theorem L_kx (hL : L ≤ 260) (hB : HB R A D0 kinds strengths moved needs forbids row row' Y ks kz) (hz : zk 6 40 rsz) (hst : ∀ d, d ≤ D0 → st d = ks 0 d) {e p a : Nat} (he : e ≤ 8) (hp : p < R) (ha : a < A) (h3 : rsz 3 = nI (2 * e)) (c : ∀ i, i < 2 * e → ∃ v, v < 100 ∧ rpl 3 i = nI v) (cp : ∀ q, q < e → M_X6_passed (kinds p) (rpl 3 (2 * q)) = rpl 3 (2 * q + 1)) (fu : Nat) :
    M_L_law_b1633 xs L (fu + 1) row' (TS Y R A kinds strengths moved needs forbids lf la up lo rsz rpl st (nI D0) ks kz fc rch tr) sc (nI R) (nI A) (nI D0) (M_X5_frostIn (ks 0 D0)) (tautF (ks 0 D0)) (M_X5_parted (ks 0 D0)) (lawF R A needs forbids (tautF (ks 0 D0))) (nI a) (nI e) (nI p) (nI e) = some () := by
  have hB' := hB
  obtain ⟨hLW, hRS, hrow, hD0, hk, hY0, hY1, hY2, hV, hG, hp0, hf0⟩ := hB'
  have hR := hRS.1
  have hA := hRS.2.1
  have hR1 := hLW.1
  have eS : st D0 = ks 0 D0 := hst D0 (Nat.le_refl _)
  obtain ⟨ek, ⟨kk, hkk, ekk⟩, -⟩ := hRS.2.2.2.2.1 p hp
  obtain ⟨s, hs, k1, k2⟩ := kb_T (rpl := rpl) he h3
  have hb : bt (nI s) kk = true := k2 kk hkk (fun q hq => by rw [← ekk]; exact cp q hq)
  have hs0 : ¬ s = 0 := fun h => by
    rw [h] at hb
    rw [show nI 0 = (0 : Int32) from rfl, b_0] at hb
    exact absurd hb (by decide)
  obtain ⟨b, g, b1, g1, g2, t1⟩ := t_test (Y := Y) (R := R) (A := A) (kinds := kinds) (strengths := strengths) (moved := moved) (needs := needs) (forbids := forbids) (lf := lf) (la := la) (up := up) (lo := lo) (st := st) (D := D0) (ks := ks) (kz := kz) (fc := fc) (rch := rch) (tr := tr) he h3 c k1 hs hs0
  obtain ⟨w, w1, w2⟩ := t_who (Y := Y) (R := R) (A := A) (kinds := kinds) (strengths := strengths) (moved := moved) (needs := needs) (forbids := forbids) (lf := lf) (la := nI g) (up := up) (lo := lo) (st := st) (D := D0) (ks := ks) (kz := kz) (fc := fc) (rch := rch) (tr := tr) hRS he h3 c k1 hp hkk ekk hb
  rw [M_L_law_b1633, if_pos (pu_le (by omega) (by omega) (Nat.le_refl e)), t_kinds he h3 c k1, Option.bind_some]
  dsimp only
  rw [t1, Option.bind_some]
  dsimp only
  rw [t_asked, Option.bind_some, if_pos (i38 2 (by omega)), cO' 2 (by omega), ek, ekk, if_pos (bit1 (by omega) hb), w1, Option.bind_some]
  dsimp only
  have hpl := pc_le6' (nI s)
  rw [if_pos (bit1 (by omega) w2), if_neg (nI_pos (by omega)), if_neg (rN 20 b1), if_neg (tN 1 g1 (by omega)), bits_T s hs, Option.bind_some, if_pos (pu_le (by omega) (by omega) g2), bits_E (par64 _ _), Option.bind_some, bits_E (par64 _ _), Option.bind_some, t_duel0 (by omega) hR (by omega), Option.bind_some]
  dsimp only
  have eV : M_J6_bitCount_0f7a4 (M_X5_parted (ks 0 D0) &&& 42) - M_J6_bitCount_0f7a4 (M_X5_parted (ks 0 D0) &&& 21) = endv (ks 0 D0) := rfl
  rw [eV, eS]
  rw [(if_pos (by first | rfl | trivial)), t_asked, Option.bind_some, (if_pos (by first | rfl | trivial))]
  obtain ⟨v, r', d1, d2, d3⟩ := t_duel1 (Y := Y) (A := A) (lf := lf) (la := endv (ks 0 D0)) (up := up) (lo := lo) (rsz := rsz) (rpl := rpl) (st := st) (D := D0) (ks := ks) (kz := kz) (fc := fc) (rch := rch) (tr := tr) (by omega) (by omega) hRS
  rw [eS] at d2 d3
  have evE := ev_E (ks 0 D0)
  have evb := ev_b (ks 0 D0)
  have ep1 : (endv (ks 0 D0) + 1).toInt = ev (ks 0 D0) + 1 := by
    rw [Int32.toInt_add, evE]
    exact Int.bmod_eq_of_le (by have : (1 : Int32).toInt = 1 := by decide
                                omega) (by have : (1 : Int32).toInt = 1 := by decide
                                           omega)
  have em1 : (endv (ks 0 D0) - 1).toInt = ev (ks 0 D0) - 1 := by
    rw [Int32.toInt_sub, evE]
    exact Int.bmod_eq_of_le (by have : (1 : Int32).toInt = 1 := by decide
                                omega) (by have : (1 : Int32).toInt = 1 := by decide
                                           omega)
  rw [d1, Option.bind_some]
  dsimp only
  rw [(if_pos (by first | rfl | trivial)), t_asked, Option.bind_some, if_neg (show ¬ endv (ks 0 D0) + 1 < v by rw [Int32.lt_iff_toInt_lt, ep1]; omega), Option.bind_some, if_pos (show endv (ks 0 D0) - 1 ≤ v by rw [Int32.le_iff_toInt_le, em1]; omega)]
  obtain ⟨c1, ec1⟩ := cl_T xs hL (k := 27) (by omega)
  obtain ⟨pp, hpp, epp⟩ := up_T c1 (n := 13) (by decide) (by decide)
  show Option.bind (M_L_cell xs L (nI 27)) _ = some ()
  rw [ec1, Option.bind_some]
  show Option.bind (M_L_up c1 (nI 13)) _ = some ()
  rw [epp, Option.bind_some]
  have hVs : pu_V R A kinds strengths moved needs forbids (st D0) := by rw [eS]; exact hV
  obtain ⟨u1, l1, o1, -, -, o4⟩ := t_odds (Y := Y) (lf := lf) (la := v) (up := up) (lo := lo) (rsz := rsz) (rpl := rpl) (ks := ks) (kz := kz) (fc := fc) (rch := r') (tr := tr) (D := D0) (by omega) hVs ha (p := 0) (by omega)
  obtain ⟨o5, o6⟩ := o4 rfl
  rw [eS] at o5
  show Option.bind (M_LR_odds (TS Y R A kinds strengths moved needs forbids lf v up lo rsz rpl st (nI D0) ks kz fc r' tr) (nI a) (nI 0)) _ = some ()
  rw [o1, Option.bind_some]
  dsimp only
  have eu1 : lN u1 = (((lawF R A needs forbids (tautF (ks 0 D0))) >>> (nI a &&& (31 : Int32))) &&& (1 : Int32)).toInt64 := by
    rw [bitI _ (show a < 32 by omega), o5]
    cases bt (lawF R A needs forbids (tautF (ks 0 D0))) a <;> rfl
  rw [(if_pos (by first | rfl | trivial)), t_upper, Option.bind_some, if_pos ((lg_cmp_eq _ _).mpr eu1), t_lower, Option.bind_some, if_pos ((lg_cmp_eq _ _).mpr (show lN l1 = 1 by rw [o6]; rfl))]
  obtain ⟨u2, l2, q1, q2, q3, -⟩ := t_odds (Y := Y) (lf := lf) (la := v) (up := lN u1) (lo := lN l1) (rsz := rsz) (rpl := rpl) (ks := ks) (kz := kz) (fc := fc) (rch := r') (tr := tr) (D := D0) (by omega) hVs ha (p := pp) (by omega)
  rw [q1, Option.bind_some]
  dsimp only
  rw [(if_pos (by first | rfl | trivial)), t_upper, Option.bind_some, if_neg (fun h => by
      have := (pk_lLT (b := 0) (show u2 < 2 ^ 63 by omega) (by decide)).mp ((lg_cmp_lt _ _).mp h)
      omega), Option.bind_some, t_lower, Option.bind_some, if_neg (fun h => by
      have := (pk_lLT (show l2 < 2 ^ 63 by omega) (show u2 < 2 ^ 63 by omega)).mp ((lg_cmp_gt _ _).mp h)
      omega)]
  obtain ⟨u3, l3, m1, -, -, m4⟩ := t_mid (Y := Y) (lf := lf) (la := v) (up := lN u2) (lo := lN l2) (rsz := rsz) (rpl := rpl) (ks := ks) (kz := kz) (fc := fc) (rch := r') (tr := tr) (D := D0) (by omega) (by omega) hVs (p := 0) (by omega)
  obtain ⟨m5, m6⟩ := m4 rfl
  rw [eS] at m5
  show Option.bind (M_LR_mid (TS Y R A kinds strengths moved needs forbids lf v (lN u2) (lN l2) rsz rpl st (nI D0) ks kz fc r' tr) (nI 0)) _ = some ()
  rw [m1, Option.bind_some]
  dsimp only
  obtain ⟨vl, hvl, evl⟩ := (V_lawb hV).2
  have em : M_L_bits (lawF R A needs forbids (tautF (ks 0 D0))) = some (nI u3) := by rw [m5, evl]; exact bits_T vl hvl
  have hu3 : u3 ≤ 6 := by rw [m5]; exact pc_le6' _
  rw [(if_pos (by first | rfl | trivial)), t_upper, Option.bind_some, em, Option.bind_some, if_pos ((lg_cmp_eq _ _).mpr (nI_l (by omega)).symm)]
  obtain ⟨u4, l4, n1, n2, n3, -⟩ := t_mid (Y := Y) (lf := lf) (la := v) (up := lN u3) (lo := lN l3) (rsz := rsz) (rpl := rpl) (ks := ks) (kz := kz) (fc := fc) (rch := r') (tr := tr) (D := D0) (by omega) (by omega) hVs (p := pp) (by omega)
  rw [n1, Option.bind_some]
  dsimp only
  have hAl : A * l4 ≤ 4 * l4 := Nat.mul_le_mul_right _ hA
  rw [(if_pos (by first | rfl | trivial)), t_upper, Option.bind_some, if_neg (fun h => by
      have := (pk_lLT (b := 0) (show u4 < 2 ^ 63 by omega) (by decide)).mp ((lg_cmp_lt _ _).mp h)
      omega), Option.bind_some, t_lower, Option.bind_some, nI_l (show A < 2 ^ 31 by omega), lN_mul, if_pos ((lg_cmp_le _ _).mpr ((pk_lLE (show u4 < 2 ^ 63 by omega) (show A * l4 < 2 ^ 63 by omega)).mpr n2))]
  obtain ⟨c2, ec2⟩ := cl_T xs hL (k := 28) (by omega)
  obtain ⟨ac, hac, eac⟩ := up_T c2 (n := 15) (by decide) (by decide)
  show Option.bind (M_L_cell xs L (nI 28)) _ = some ()
  rw [ec2, Option.bind_some]
  show Option.bind (M_L_up c2 (nI 15)) _ = some ()
  rw [eac, Option.bind_some]
  exact L_2012 hL hB hz hst (by omega) _
theorem L_1633 (hL : L ≤ 260) (hB : HB R A D0 kinds strengths moved needs forbids row row' Y ks kz) (hz : zk 6 40 rsz) (hst : ∀ d, d ≤ D0 → st d = ks 0 d) {e p a : Nat} (he : e ≤ 8) (hp : p < R) (ha : a < A) (h3 : rsz 3 = nI (2 * e)) :
    ∀ (d k fu : Nat) (la : Int32) (rpl : Nat → Nat → Int32), k + d = e → d < fu → (∀ i, i < 2 * k → ∃ v, v < 100 ∧ rpl 3 i = nI v) → (∀ q, q < k → M_X6_passed (kinds p) (rpl 3 (2 * q)) = rpl 3 (2 * q + 1)) →
      M_L_law_b1633 xs L fu row' (TS Y R A kinds strengths moved needs forbids lf la up lo rsz rpl st (nI D0) ks kz fc rch tr) sc (nI R) (nI A) (nI D0) (M_X5_frostIn (ks 0 D0)) (tautF (ks 0 D0)) (M_X5_parted (ks 0 D0)) (lawF R A needs forbids (tautF (ks 0 D0))) (nI a) (nI e) (nI p) (nI k) = some () := by
  have hRS := hB.2.1
  have hR := hRS.1
  obtain ⟨ek, ⟨kk, hkk, ekk⟩, -⟩ := hRS.2.2.2.2.1 p hp
  intro d
  induction d with
  | zero =>
    intro k fu la rpl h1 h2 h4 h5
    obtain ⟨fu, rfl⟩ : ∃ q, fu = q + 1 := ⟨fu - 1, by omega⟩
    obtain rfl : k = e := by omega
    exact L_kx hL hB hz hst he hp ha h3 h4 h5 fu
  | succ d ih =>
    intro k fu la rpl h1 h2 h4 h5
    obtain ⟨fu, rfl⟩ : ∃ q, fu = q + 1 := ⟨fu - 1, by omega⟩
    obtain ⟨c, ec⟩ := cl_T xs hL (k := 18 + k) (by omega)
    obtain ⟨w, hw, ew⟩ := up_T c (n := 100) (by decide) (by decide)
    obtain ⟨u, hu, eu⟩ := pa_lt (k := kk) (v := w) hkk (by omega)
    have ep : M_X6_passed (kinds p) (nI w) = nI u := by rw [pa_eq _ (by omega), ekk, eu]
    have i2 : (2 : Int32) * nI k = nI (2 * k) := pk_mul 2 k
    rw [M_L_law_b1633, if_neg (nI_ge (by omega) (by omega))]
    show Option.bind (M_L_cell xs L (nI 18 + nI k)) _ = some ()
    rw [nI_add, ec, Option.bind_some]
    show Option.bind (M_L_up c (nI 100)) _ = some ()
    rw [ew, Option.bind_some, i2, t_lay3 (z0 := 2 * e) (i := 2 * k) (by omega) h3 (by omega), Option.bind_some]
    dsimp only
    rw [(if_pos (by first | rfl | trivial)), t_passes hR hp (by omega), Option.bind_some, ep, nI_1, t_lay3 (z0 := 2 * e) (i := 2 * k + 1) (by omega) h3 (by omega), Option.bind_some]
    dsimp only
    rw [(if_pos (by first | rfl | trivial)), nI_1, pu_22, pu_2s]
    refine ih (k + 1) fu _ _ (by omega) (by omega) (fun i hi => ?_) (fun q hq => ?_)
    · rw [pu_2s]
      by_cases e1 : i = 2 * k + 1
      · subst e1; rw [pu_us]; exact ⟨u, by omega, rfl⟩
      · rw [pu_un e1]
        by_cases e2 : i = 2 * k
        · subst e2; rw [pu_us]; exact ⟨w, hw, rfl⟩
        · rw [pu_un e2]; exact h4 i (by omega)
    · rw [pu_2s]
      by_cases e1 : q = k
      · subst e1; rw [pu_us, pu_un (by omega), pu_us]; exact ep
      · rw [pu_un (by omega), pu_un (by omega), pu_un (by omega), pu_un (by omega)]; exact h5 q (by omega)
theorem L_1587 (hL : L ≤ 260) (hB : HB R A D0 kinds strengths moved needs forbids row row' Y ks kz) (hz : zk 6 40 rsz) (hst : ∀ d, d ≤ D0 → st d = ks 0 d) {a : Nat} (ha : a < A) :
    M_L_law_b1587 xs L row' (TS Y R A kinds strengths moved needs forbids lf la up lo rsz rpl st (nI D0) ks kz fc rch tr) sc (nI R) (nI A) (nI D0) (M_X5_frostIn (ks 0 D0)) (tautF (ks 0 D0)) (M_X5_parted (ks 0 D0)) (lawF R A needs forbids (tautF (ks 0 D0))) (nI a) = some () := by
  have hR1 := hB.1.1
  have hR := hB.1.2.1
  obtain ⟨c, ec⟩ := cl_T xs hL (k := 16) (by omega)
  obtain ⟨e, he, ee⟩ := up_T c (n := 9) (by decide) (by decide)
  obtain ⟨c2, ec2⟩ := cl_T xs hL (k := 17) (by omega)
  obtain ⟨p, hp, ep⟩ := up_T c2 (n := R) (by omega) (by omega)
  have i2 : (2 : Int32) * nI e = nI (2 * e) := pk_mul 2 e
  obtain ⟨q, hq⟩ := t_row3 (Y := Y) (R := R) (A := A) (kinds := kinds) (strengths := strengths) (moved := moved) (needs := needs) (forbids := forbids) (lf := lf) (la := la) (up := up) (lo := lo) (rsz := rsz) (rpl := rpl) (st := st) (D := D0) (ks := ks) (kz := kz) (fc := fc) (rch := rch) (tr := tr) (z0 := 2 * e) (by omega)
  unfold M_L_law_b1587
  show Option.bind (M_L_cell xs L (nI 16)) _ = some ()
  rw [ec, Option.bind_some]
  show Option.bind (M_L_up c (nI 9)) _ = some ()
  rw [ee, Option.bind_some]
  show Option.bind (M_L_cell xs L (nI 17)) _ = some ()
  rw [ec2, Option.bind_some, ep, Option.bind_some, i2, hq, Option.bind_some]
  dsimp only
  rw [(if_pos (by first | rfl | trivial))]
  exact L_1633 hL hB (zk_upd hz (by omega)) hst (by omega) hp ha pu_us e 0 x_fuel la _ (by omega) (by unfold x_fuel; omega) (fun i hi => absurd hi (by omega)) (fun q hq => absurd hq (by omega))
end
