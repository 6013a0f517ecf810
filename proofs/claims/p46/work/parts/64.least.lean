/-! THE LAW: the fewest deeds, step by step -/
section
variable {R A D : Nat} {kinds strengths moved needs forbids : Nat → Int32} {Y : x_Y} {lf : Int32} {la : Int32} {up : Int64} {lo : Int64} {rsz : Nat → Int32} {rpl : Nat → Nat → Int32} {st : Nat → Int64} {ks : Nat → Nat → Int64} {kz : Nat → Int32} {fc : Nat → Int32} {rch : Int32} {tr : Nat → Int32}
variable {D0 L : Nat} {xs row row' sc : Nat → Int32}
theorem t_at5 {z0 i : Nat} (hz : z0 ≤ 40) (h : rsz 5 = nI z0) (hi : i < z0) : M_LR_at (TS Y R A kinds strengths moved needs forbids lf la up lo rsz rpl st (nI D) ks kz fc rch tr) (5 : Int32) (nI i) = some (1, (TS Y R A kinds strengths moved needs forbids lf (rpl 5 i) up lo rsz rpl st (nI D) ks kz fc rch tr)) := t_at (r := 5) (by decide) hz h hi
theorem L_1013 (hL : L ≤ 260) (hB : HB R A D0 kinds strengths moved needs forbids row row' Y ks kz) (hz : zk 6 40 rsz) (hsc : ∀ i, i < R → sc i = nI (sv (ks 0 D0) i)) {a : Nat} (ha : a < A) {N code : Nat} (hN : N ≤ 4) (h5 : rsz 5 = nI N) (hq : ∀ j, j < N → rpl 5 j = nI (dg N code j)) :
    ∀ (d k fu : Nat) (la : Int32) (st : Nat → Int64) (rch : Int32), k + d = N → d < fu → pu_V R A kinds strengths moved needs forbids (st (D0 + k)) → M_X5_parted (st (D0 + k)) = M_X5_parted (ks 0 D0) → lsOk R kinds strengths moved needs forbids a d (st (D0 + k)) (code % 12 ^ d) = true → (∀ L' c', L' < d → c' < 12 ^ L' → lsOk R kinds strengths moved needs forbids a L' (st (D0 + k)) c' = false) →
      M_L_law_b1013 xs L fu row' (TS Y R A kinds strengths moved needs forbids lf la up lo rsz rpl st (nI (D0 + k)) ks kz fc rch tr) sc (nI R) (nI A) (nI D0) (M_X5_frostIn (ks 0 D0)) (tautF (ks 0 D0)) (M_X5_letGo (ks 0 D0)) (M_X5_parted (ks 0 D0)) (lawF R A needs forbids (tautF (ks 0 D0))) (nI a) (nI N) (nI k) = some () := by
  have hRS := hB.2.1
  have hR := hRS.1
  have hR1 := hB.1.1
  have hA := hRS.2.1
  have hD0 : D0 ≤ 9 := hB.2.2.2.1
  intro d
  induction d with
  | zero =>
    intro k fu la st rch h1 h2 hV hp hok hmin
    obtain ⟨fu, rfl⟩ : ∃ q, fu = q + 1 := ⟨fu - 1, by omega⟩
    obtain rfl : k = N := by omega
    rw [M_L_law_b1013, if_pos (pu_le (by omega) (by omega) (Nat.le_refl k))]
    by_cases q : k = 0
    · subst q
      rw [if_pos (show nI 0 ≤ 0 by decide)]
      exact L_1154 hL hB hz hsc ha
    · rw [if_neg (nI_nle (by omega) (by omega)), t_c6 (by omega), Option.bind_some, hp, if_pos rfl]
      have hok0 : lsOk R kinds strengths moved needs forbids a 0 (st (D0 + k)) 0 = true := hok
      rcases t_least (Y := Y) (lf := lf) (la := la) (up := up) (lo := lo) (rsz := rsz) (rpl := rpl) (ks := ks) (kz := kz) (fc := fc) (rch := rch) (tr := tr) (D := D0 + k) (by omega) hV ha with ⟨L2, code2, q2, rch2, tr2, l1, l2, l3, -⟩ | ⟨rch2, tr2, l2, l3⟩
      · have hL2 : L2 = 0 := by
          rcases Nat.eq_zero_or_pos L2 with w | w
          · exact w
          · have := l3.2.2.2 0 0 w (by decide)
            rw [hok0] at this
            exact absurd this (by decide)
        subst hL2
        rw [l2, Option.bind_some]
        dsimp only
        rw [if_pos (show nI 0 = 0 from rfl)]
        exact L_1154 hL hB (zk_upd hz (by omega)) hsc ha
      · have := l3 0 0 (by omega) (by decide)
        rw [hok0] at this
        exact absurd this (by decide)
  | succ d ih =>
    intro k fu la st rch h1 h2 hV hp hok hmin
    obtain ⟨fu, rfl⟩ : ∃ q, fu = q + 1 := ⟨fu - 1, by omega⟩
    have hk : k < N := by omega
    have hp12 : 0 < 12 ^ d := Nat.pow_pos (by decide)
    have ed : code % 12 ^ (d + 1) / 12 ^ d = dg N code k := by
      unfold dg
      rw [show N - 1 - k = d by omega, Nat.pow_succ, Nat.mod_mul_right_div_self]
    have em : code % 12 ^ (d + 1) % 12 ^ d = code % 12 ^ d := Nat.mod_mod_of_dvd _ (by rw [Nat.pow_succ]; exact Nat.dvd_mul_right _ _)
    rw [lsOk, ed, em] at hok
    have hdl := dg_lt N code k
    have eq := hq k hk
    generalize dg N code k = c at hok hdl eq
    cases hs : lsS R kinds strengths moved (st (D0 + k)) c with
    | none => rw [hs] at hok; exact absurd hok (by simp)
    | some s' =>
      rw [hs] at hok
      have hok' : lsOk R kinds strengths moved needs forbids a d s' (code % 12 ^ d) = true := hok
      have hV' := V_step hV hs
      have hmin' : ∀ L' c', L' < d → c' < 12 ^ L' → lsOk R kinds strengths moved needs forbids a L' s' c' = false := fun L' c' h3 h4 => by
        have := hmin (L' + 1) (c * 12 ^ L' + c') (by omega) (by
          have : (c + 1) * 12 ^ L' ≤ 12 * 12 ^ L' := Nat.mul_le_mul_right _ (by omega)
          rw [Nat.succ_mul] at this
          rw [Nat.pow_succ, Nat.mul_comm (12 ^ L')]
          omega)
        rw [ok_s h4, hs] at this
        exact this
      have hst : c % 6 < R ∧ M_X5_isFast (st (D0 + k)) (nI (c % 6)) = 1 := by
        refine Classical.byContradiction (fun h => ?_)
        rw [lsS_no h] at hs
        exact absurd hs (by simp)
      have hf : fastB (st (D0 + k)) (c % 6) = true := by
        have := hst.2
        rw [st_isFast _ (by omega)] at this
        unfold fastB
        cases hb : (bl (st (D0 + k)) (24 + c % 6) || bl (st (D0 + k)) (30 + c % 6))
        · rfl
        · rw [hb] at this; exact absurd this (by decide)
      have ec6 : nI c - nI c / (6 : Int32) * (6 : Int32) = nI (c % 6) := pk_rem (d := 6) (by omega) (by decide) (by decide)
      -- behind the step
      have tail : ∀ (la rch : Int32), M_X5_parted s' = M_X5_parted (st (D0 + k)) → M_L_law_b1094 xs L (fun (row_c' : (Nat → Int32)) (S' : x_S) (strains_c' : (Nat → Int32)) (x3' : Int32) (x4' : Int32) (x5' : Int32) (x6' : Int32) (x7' : Int32) (x8' : Int32) (x9' : Int32) (x10' : Int32) (x13' : Int32) (x14' : Int32) (x15' : Int32) => M_L_law_b1013 xs L fu row_c' S' strains_c' x3' x4' x5' x6' x7' x8' x9' x10' x13' x14' x15') row' (TS Y R A kinds strengths moved needs forbids lf la up lo rsz rpl (vp_updL st (D0 + k + 1) s') (nI (D0 + k + 1)) ks kz fc rch tr) sc (nI R) (nI A) (nI D0) (M_X5_frostIn (ks 0 D0)) (tautF (ks 0 D0)) (M_X5_letGo (ks 0 D0)) (M_X5_parted (ks 0 D0)) (lawF R A needs forbids (tautF (ks 0 D0))) (nI a) (nI N) (nI k) = some () := fun la rch hpp => by
        have i1 := ih (k + 1) fu la (vp_updL st (D0 + k + 1) s') rch (by omega) (by omega) (by rw [show D0 + (k + 1) = D0 + k + 1 by omega, pk_uLs]; exact hV') (by rw [show D0 + (k + 1) = D0 + k + 1 by omega, pk_uLs, hpp, hp]) (by rw [show D0 + (k + 1) = D0 + k + 1 by omega, pk_uLs]; exact hok') (by rw [show D0 + (k + 1) = D0 + k + 1 by omega, pk_uLs]; exact hmin')
        have go : ∀ x y : Int32, x = y → M_L_law_b1117 xs L (fun (row_c' : (Nat → Int32)) (S' : x_S) (strains_c' : (Nat → Int32)) (x3' : Int32) (x4' : Int32) (x5' : Int32) (x6' : Int32) (x7' : Int32) (x8' : Int32) (x9' : Int32) (x10' : Int32) (x13' : Int32) (x14' : Int32) (x15' : Int32) => M_L_law_b1013 xs L fu row_c' S' strains_c' x3' x4' x5' x6' x7' x8' x9' x10' x13' x14' x15') row' (TS Y R A kinds strengths moved needs forbids lf la up lo rsz rpl (vp_updL st (D0 + k + 1) s') (nI (D0 + k + 1)) ks kz fc rch tr) sc (nI R) (nI A) (nI D0) (M_X5_frostIn (ks 0 D0)) (tautF (ks 0 D0)) (M_X5_letGo (ks 0 D0)) (M_X5_parted (ks 0 D0)) (lawF R A needs forbids (tautF (ks 0 D0))) (nI a) (nI N) (nI k) x y = some () := fun x y hxy => by
          unfold M_L_law_b1117
          rw [if_pos hxy, nI_1]
          exact i1
        unfold M_L_law_b1094
        rw [t_lawful (by omega) (by omega) (by rw [pk_uLs]; exact hV'), Option.bind_some, pk_uLs, bitI _ (show a < 32 by omega), (V_lawb hV').1 a (by omega), decide_eq_true ha, Bool.true_and, show nI N - (1 : Int32) = nI (N - 1) from pk_sub (b := 1) (by omega)]
        by_cases q : k = N - 1
        · rw [if_pos (show nI k = nI (N - 1) by rw [← q])]
          obtain rfl : d = 0 := by omega
          have hl : law1 R needs forbids (tautF s') a = true := hok'
          exact go _ _ (by rw [hl]; rfl)
        · rw [if_neg (pu_ne (by omega) (by omega) q)]
          have hl : law1 R needs forbids (tautF s') a = false := hmin' 0 0 (by omega) (by decide)
          exact go _ _ (by rw [hl]; rfl)
      rw [M_L_law_b1013, if_neg (nI_ge hk (by omega)), t_at5 (z0 := N) (by omega) h5 hk, Option.bind_some]
      dsimp only
      rw [t_asked, Option.bind_some, (if_pos (by first | rfl | trivial)), eq, if_neg (nI_pos (by omega)), if_neg (rN 11 (by omega)), ec6, if_neg (pu_nle (by omega) (by omega) hst.1)]
      by_cases c6 : c < 6
      · rw [if_neg (gN 6 c6)]
        have e6 : c % 6 = c := Nat.mod_eq_of_lt c6
        rw [lsS_hl c6 hst.1 hst.2] at hs
        rw [e6] at hs hst hf
        by_cases qp : M_X5_parted (hS R kinds strengths moved (st (D0 + k)) c 1) = M_X5_parted (st (D0 + k))
        · rw [if_pos qp] at hs
          obtain rfl := Option.some.inj hs
          show Option.bind (M_LR_haul (TS Y R A kinds strengths moved needs forbids lf (nI c) up lo rsz rpl st (nI (D0 + k)) ks kz fc rch tr) (nI c) (nI 1)) _ = some ()
          rw [t_haul (by omega) hRS hst.1 (by omega) (by omega) hf, Option.bind_some]
          dsimp only
          rw [if_pos (show (if wh R kinds strengths moved (st (D0 + k)) c 1 = -9 then (0 : Int32) else 1) = 0 from if_pos (wh_9 qp))]
          exact tail _ _ qp
        · rw [if_neg qp] at hs; exact absurd hs (by simp)
      · rw [if_pos (gL 6 (by omega) (by omega)), show nI c - (6 : Int32) = nI (c - 6) from pk_sub (b := 6) (by omega)]
        have e6 : c % 6 = c - 6 := by omega
        rw [lsS_lg c6 hst.1 hst.2] at hs
        rw [e6] at hs hst hf
        by_cases qp : M_X5_parted (M_X5_afterLetGo (st (D0 + k)) (nI (c - 6))) = M_X5_parted (st (D0 + k))
        · rw [if_pos qp] at hs
          obtain rfl := Option.some.inj hs
          have hsv := sv_lt (st (D0 + k)) (c - 6)
          rw [t_slack (by omega) hR hst.1 hf, Option.bind_some]
          dsimp only
          rw [if_neg (nI_pos (by omega))]
          exact tail _ _ qp
        · rw [if_neg qp] at hs; exact absurd hs (by simp)
theorem L_979 (hL : L ≤ 260) (hB : HB R A D0 kinds strengths moved needs forbids row row' Y ks kz) (hz : zk 6 40 rsz) (hst : ∀ d, d ≤ D0 → st d = ks 0 d) (hsc : ∀ i, i < R → sc i = nI (sv (ks 0 D0) i)) {a : Nat} (ha : a < A) {x14 : Int32}
    (h : (∃ N code, N ≤ 4 ∧ x14 = nI N ∧ rsz 5 = nI N ∧ (∀ j, j < N → rpl 5 j = nI (dg N code j)) ∧ lsAt R kinds strengths moved needs forbids a (ks 0 D0) N code) ∨ (x14 = -9 ∧ ∀ L' c', L' < 5 → c' < 12 ^ L' → lsOk R kinds strengths moved needs forbids a L' (ks 0 D0) c' = false)) :
    M_L_law_b979 xs L row' (TS Y R A kinds strengths moved needs forbids lf la up lo rsz rpl st (nI D0) ks kz fc rch tr) sc (nI R) (nI A) (nI D0) (M_X5_frostIn (ks 0 D0)) (tautF (ks 0 D0)) (M_X5_letGo (ks 0 D0)) (M_X5_parted (ks 0 D0)) (lawF R A needs forbids (tautF (ks 0 D0))) (nI a) x14 = some () := by
  have hA := hB.2.1.2.1
  have hV := hB.2.2.2.2.2.2.2.2.1
  have eS : st D0 = ks 0 D0 := hst D0 (Nat.le_refl _)
  have hlb : bt (lawF R A needs forbids (tautF (ks 0 D0))) a = law1 R needs forbids (tautF (ks 0 D0)) a := by
    rw [(V_lawb hV).1 a (by omega), decide_eq_true ha, Bool.true_and]
  unfold M_L_law_b979 M_L_law_b989 M_L_law_b1005
  rw [bitI _ (show a < 32 by omega), hlb]
  rcases h with ⟨N, code, hN, rfl, h5, hq, h1, h2, h3, h4⟩ | ⟨rfl, h4⟩
  · have fin : M_L_law_b1013 xs L x_fuel row' (TS Y R A kinds strengths moved needs forbids lf la up lo rsz rpl st (nI D0) ks kz fc rch tr) sc (nI R) (nI A) (nI D0) (M_X5_frostIn (ks 0 D0)) (tautF (ks 0 D0)) (M_X5_letGo (ks 0 D0)) (M_X5_parted (ks 0 D0)) (lawF R A needs forbids (tautF (ks 0 D0))) (nI a) (nI N) 0 = some () :=
      L_1013 hL hB hz hsc ha hN h5 hq N 0 x_fuel la st rch (by omega) (by unfold x_fuel; omega) (by rw [Nat.add_zero, eS]; exact hV) (by rw [Nat.add_zero, eS]) (by rw [Nat.add_zero, eS, Nat.mod_eq_of_lt h1]; exact h2) (by rw [Nat.add_zero, eS]; exact h4)
    by_cases q : N = 0
    · subst q
      have hl : law1 R needs forbids (tautF (ks 0 D0)) a = true := h2
      rw [if_pos (show nI 0 = 0 from rfl), hl, if_pos (show (if true = true then (1 : Int32) else 0) = 1 by decide), if_pos rfl]
      exact fin
    · have hl : law1 R needs forbids (tautF (ks 0 D0)) a = false := h4 0 0 (by omega) (by decide)
      rw [if_neg (eN 0 q (by omega)), hl, if_neg (show ¬ (if false = true then (1 : Int32) else 0) = 1 by decide), if_pos rfl]
      exact fin
  · have hl : law1 R needs forbids (tautF (ks 0 D0)) a = false := h4 0 0 (by omega) (by decide)
    rw [if_neg (show ¬ (-9 : Int32) = 0 by decide), hl, if_neg (show ¬ (if false = true then (1 : Int32) else 0) = 1 by decide), if_pos rfl]
    show M_L_law_b1013 xs L (999999 + 1) _ _ _ _ _ _ _ _ _ _ _ _ _ _ = some ()
    rw [M_L_law_b1013, if_pos (by decide), if_pos (by decide)]
    exact L_1154 hL hB hz hsc ha
end
