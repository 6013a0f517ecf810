/-! THE LAW: the ropes to cut, the fewest deeds -/
theorem ap_ap (s : Int64) (x y : Int32) : ap (ap s x) y = ap s (x ||| y) := l_ext (fun j hj => by
  rw [st_ap _ y hj, st_ap s x hj, st_ap s (x ||| y) hj]
  by_cases h1 : j < 24
  · rw [if_pos h1, if_pos h1, if_pos h1, b_or, Bool.not_or, Bool.and_assoc]
  · rw [if_neg h1, if_neg h1, if_neg h1]
    by_cases h2 : 30 ≤ j ∧ j < 36
    · rw [if_pos h2, if_pos h2, if_pos h2, b_or, Bool.or_assoc]
    · rw [if_neg h2, if_neg h2, if_neg h2])
theorem ap_0 (s : Int64) : ap s (nI 0) = s := l_ext (fun j hj => by
  rw [st_ap s _ hj, show nI 0 = (0 : Int32) from rfl]
  by_cases h1 : j < 24
  · rw [if_pos h1, b_0, Bool.not_false, Bool.and_true]
  · rw [if_neg h1]
    by_cases h2 : 30 ≤ j ∧ j < 36
    · rw [if_pos h2, b_0, Bool.or_false]
    · rw [if_neg h2])
theorem bm_T {b k : Nat} {j : Nat} (hj : j < 32) : bt (nI (b % 2 ^ k)) j = (decide (j < k) && bt (nI b) j) := by
  rw [b_nI _ hj, b_nI _ hj, Nat.testBit_mod_two_pow]
theorem wh_9 {R : Nat} {kinds strengths moved : Nat → Int32} {s : Int64} {i v : Nat} (h : M_X5_parted (hS R kinds strengths moved s i v) = M_X5_parted s) : wh R kinds strengths moved s i v = -9 := by
  unfold wh M_X6_firstParted
  rw [h, if_pos (bx_0.mpr (fun j hj => by rw [b_and, b_not _ hj, Bool.and_not_self]))]
section
variable {R A D : Nat} {kinds strengths moved needs forbids : Nat → Int32} {Y : x_Y} {lf : Int32} {la : Int32} {up : Int64} {lo : Int64} {rsz : Nat → Int32} {rpl : Nat → Nat → Int32} {st : Nat → Int64} {ks : Nat → Nat → Int64} {kz : Nat → Int32} {fc : Nat → Int32} {rch : Int32} {tr : Nat → Int32}
variable {D0 L : Nat} {xs row row' sc : Nat → Int32}
theorem L_1297 (hL : L ≤ 260) (hB : HB R A D0 kinds strengths moved needs forbids row row' Y ks kz) (hz : zk 6 40 rsz) (hsc : ∀ i, i < R → sc i = nI (sv (ks 0 D0) i)) {a : Nat} (ha : a < A) {iv : Int32} (hiv : ∀ j, j < 32 → bt iv j = (decide (j < R) && cfB R (ks 0 D0) ((1 : Int32) <<< (nI j &&& 31)) && decide (lawF R A needs forbids (tautF (ap (ks 0 D0) ((1 : Int32) <<< (nI j &&& 31)))) = lawF R A needs forbids (tautF (ks 0 D0)))))
    {x15 : Int32} (hD : D ≤ 40) (h : x15 = -9 ∨ ∃ w, w < 100 ∧ x15 = nI w ∧ pu_V R A kinds strengths moved needs forbids (st D) ∧ lawF R A needs forbids (tautF (st D)) = 0) :
    M_L_law_b1297 xs L row' (TS Y R A kinds strengths moved needs forbids lf la up lo rsz rpl st (nI D) ks kz fc rch tr) sc (nI R) (nI A) (nI D0) (M_X5_frostIn (ks 0 D0)) (tautF (ks 0 D0)) (M_X5_letGo (ks 0 D0)) (M_X5_parted (ks 0 D0)) (lawF R A needs forbids (tautF (ks 0 D0))) (nI a) x15 iv = some () := by
  unfold M_L_law_b1297
  rcases h with rfl | ⟨w, hw, rfl, h1, h2⟩
  · rw [if_pos (by decide)]
    exact L_1309 hL hB hz hsc ha hiv
  · rw [if_neg (nI_pos (by omega)), t_lawful hD (by have := hB.1.1; omega) h1, Option.bind_some, h2, if_pos rfl]
    exact L_1309 hL hB hz hsc ha hiv
theorem L_1250 (hL : L ≤ 260) (hB : HB R A D0 kinds strengths moved needs forbids row row' Y ks kz) (hz : zk 6 40 rsz) (hsc : ∀ i, i < R → sc i = nI (sv (ks 0 D0) i)) {a : Nat} (ha : a < A) {iv : Int32} (hiv : ∀ j, j < 32 → bt iv j = (decide (j < R) && cfB R (ks 0 D0) ((1 : Int32) <<< (nI j &&& 31)) && decide (lawF R A needs forbids (tautF (ap (ks 0 D0) ((1 : Int32) <<< (nI j &&& 31)))) = lawF R A needs forbids (tautF (ks 0 D0)))))
    {b w : Nat} (hb : b < 64) (hw : w = pc (nI b)) (hw0 : 0 < w) (hcf : cfB R (ks 0 D0) (nI b) = true) (hlz : lz R A needs forbids (ks 0 D0) (nI b)) (hmin : ∀ k, k < 64 → cfB R (ks 0 D0) (nI k) = true → lz R A needs forbids (ks 0 D0) (nI k) → pc (nI b) ≤ pc (nI k)) :
    ∀ (d k fu D : Nat) (st : Nat → Int64), k + d = R → d < fu → D ≤ D0 + k → st D = ap (ks 0 D0) (nI (b % 2 ^ k)) →
      M_L_law_b1250 xs L fu row' (TS Y R A kinds strengths moved needs forbids lf la up lo rsz rpl st (nI D) ks kz fc rch tr) sc (nI R) (nI A) (nI D0) (M_X5_frostIn (ks 0 D0)) (tautF (ks 0 D0)) (M_X5_letGo (ks 0 D0)) (M_X5_parted (ks 0 D0)) (lawF R A needs forbids (tautF (ks 0 D0))) (nI a) (nI w) (nI b) iv (nI k) = some () := by
  have hRS := hB.2.1
  have hR := hRS.1
  have hR1 := hB.1.1
  have hD0 : D0 ≤ 9 := hB.2.2.2.1
  have hV := hB.2.2.2.2.2.2.2.2.1
  have hw6 : w ≤ 6 := by rw [hw]; exact pc_le6' _
  intro d
  induction d with
  | zero =>
    intro k fu D st h1 h2 h3 h4
    obtain ⟨fu, rfl⟩ : ∃ q, fu = q + 1 := ⟨fu - 1, by omega⟩
    obtain rfl : k = R := by omega
    have e : nI (b % 2 ^ k) = nI b := b_ext (fun j hj => by
      rw [bm_T hj]
      cases q : bt (nI b) j
      · rw [Bool.and_false]
      · rw [decide_eq_true (cfB_iff.mp hcf j hj q).1]; rfl)
    rw [M_L_law_b1250, if_pos (pu_le (by omega) (by omega) (Nat.le_refl k))]
    exact L_1297 hL hB hz hsc ha hiv (by omega) (.inr ⟨w, by omega, rfl, by rw [h4]; exact V_ap hV _, by rw [h4, e]; exact hlz⟩)
  | succ d ih =>
    intro k fu D st h1 h2 h3 h4
    obtain ⟨fu, rfl⟩ : ∃ q, fu = q + 1 := ⟨fu - 1, by omega⟩
    have hk : k < R := by omega
    rw [M_L_law_b1250, if_neg (nI_ge hk (by omega)), if_neg (nI_nle hw0 (by omega)), bitI _ (show k < 32 by omega)]
    unfold M_L_law_b1291
    rw [nI_1]
    cases hbk : bt (nI b) k
    · rw [if_neg (show ¬ (if false = true then (1 : Int32) else 0) = 1 by decide)]
      refine ih (k + 1) fu D st (by omega) (by omega) (by omega) ?_
      rw [h4]
      congr 1
      refine b_ext (fun j hj => ?_)
      rw [bm_T hj, bm_T hj]
      by_cases e : j = k
      · subst e; rw [hbk, Bool.and_false, Bool.and_false]
      · rw [show decide (j < k) = decide (j < k + 1) from decide_eq_decide.mpr (by omega)]
    · rw [if_pos (show (if true = true then (1 : Int32) else 0) = 1 by decide)]
      have hmk : bt (nI (b % 2 ^ k)) k = false := by rw [bm_T (by omega), decide_eq_false (by omega), Bool.false_and]
      have emk : nI (b % 2 ^ (k + 1)) = nI (b % 2 ^ k) ||| ((1 : Int32) <<< (nI k &&& 31)) := b_ext (fun j hj => by
        rw [b_or, bm_T hj, bm_T hj, b_sb (by omega) hj]
        by_cases e : j = k
        · subst e; rw [hbk, decide_eq_true rfl, decide_eq_true (show j < j + 1 by omega), Bool.or_true]; rfl
        · rw [decide_eq_false e, Bool.or_false, show decide (j < k) = decide (j < k + 1) from decide_eq_decide.mpr (by omega)])
      have hsub : cfB R (ks 0 D0) (nI (b % 2 ^ k)) = true := cfB_iff.mpr (fun j hj hbj => by
        rw [bm_T hj, Bool.and_eq_true] at hbj
        exact cfB_iff.mp hcf j hj hbj.2)
      have hb6 : b % 2 ^ k < 64 := Nat.lt_of_le_of_lt (Nat.mod_le _ _) hb
      have hpc : pc (nI (b % 2 ^ k)) + 1 ≤ pc (nI b) := by
        rw [← pc_add (by omega) hmk, ← emk]
        refine pc_mono (fun j hj hbj => ?_)
        rw [bm_T (by omega), Bool.and_eq_true] at hbj
        exact hbj.2
      have hnl : ¬ lawF R A needs forbids (tautF (ap (ks 0 D0) (nI (b % 2 ^ k)))) = 0 := fun h => by
        have := hmin _ hb6 hsub h
        omega
      obtain ⟨-, -, hpk⟩ := cfB_iff.mp hcf k (by omega) hbk
      have hbl : bl (st D) (30 + k) = false := by
        rw [h4, st_ap _ _ (by omega), if_neg (by omega), if_pos (by omega), hpk, show 30 + k - 30 = k by omega, hmk]; rfl
      have hV4 : pu_V R A kinds strengths moved needs forbids (st D) := by rw [h4]; exact V_ap hV _
      rw [t_lawful (by omega) (by omega) hV4, Option.bind_some, h4, if_neg hnl, t_cut (by omega) hR hk hbl, Option.bind_some]
      dsimp only
      obtain ⟨pv, hpv, epv⟩ := pt64 (ap (st D) ((1 : Int32) <<< (nI k &&& 31)))
      have hp1 : 1 ≤ pc (nI pv) := by
        rw [← epv, ap_parted _ (fun j h6 h7 => by rw [b_sb (by omega) h7, decide_eq_false (by omega)]), pc_add (by omega) (by rw [par_b _ (show k < 6 by omega)]; exact hbl)]
        omega
      have hp6 := pc_le6' (nI pv)
      rw [epv, bcN hpv, if_pos (show (1 : Int32) ≤ nI (pc (nI pv)) from pu_le (a := 1) (by omega) (by omega) hp1)]
      refine ih (k + 1) fu (D + 1) _ (by omega) (by omega) (by omega) ?_
      rw [pk_uLs, h4, ap_ap, emk]
theorem L_1154 (hL : L ≤ 260) (hB : HB R A D0 kinds strengths moved needs forbids row row' Y ks kz) (hz : zk 6 40 rsz) (hsc : ∀ i, i < R → sc i = nI (sv (ks 0 D0) i)) {a : Nat} (ha : a < A) :
    M_L_law_b1154 xs L row' (TS Y R A kinds strengths moved needs forbids lf la up lo rsz rpl st (nI D) ks kz fc rch tr) sc (nI R) (nI A) (nI D0) (M_X5_frostIn (ks 0 D0)) (tautF (ks 0 D0)) (M_X5_letGo (ks 0 D0)) (M_X5_parted (ks 0 D0)) (lawF R A needs forbids (tautF (ks 0 D0))) (nI a) = some () := by
  have hR := hB.2.1.1
  have hR1 := hB.1.1
  have hkz : kz 0 = nI D0 := hB.2.2.2.2.1
  have hD0 : D0 ≤ 9 := hB.2.2.2.1
  have hV := hB.2.2.2.2.2.2.2.2.1
  obtain ⟨st', o1, o2⟩ := t_on (Y := Y) (R := R) (A := A) (kinds := kinds) (strengths := strengths) (moved := moved) (needs := needs) (forbids := forbids) (lf := lf) (la := la) (up := up) (lo := lo) (rsz := rsz) (rpl := rpl) (st := st) (D := D) (ks := ks) (fc := fc) (rch := rch) (tr := tr) (D0 := D0) (by omega) hkz
  have eS : st' D0 = ks 0 D0 := o2 D0 (Nat.le_refl _)
  have hVs : pu_V R A kinds strengths moved needs forbids (st' D0) := by rw [eS]; exact hV
  obtain ⟨v, la', f1, f2⟩ := t_fall (Y := Y) (lf := lf) (la := la) (up := up) (lo := lo) (rsz := rsz) (rpl := rpl) (ks := ks) (kz := kz) (fc := fc) (rch := rch) (tr := tr) (D := D0) (by omega) (by omega) hVs
  obtain ⟨iv, i1, i2⟩ := t_idle (Y := Y) (lf := lf) (la := la') (up := up) (lo := lo) (rsz := rsz) (rpl := rpl) (ks := ks) (kz := kz) (fc := fc) (rch := rch) (tr := tr) (D := D0) (by omega) (by omega) hVs
  rw [eS] at f2 i2
  have hc0 : cfB R (ks 0 D0) (nI 0) = true := cfB_iff.mpr (fun j hj hb => by rw [show nI 0 = (0 : Int32) from rfl, b_0] at hb; exact absurd hb (by decide))
  unfold M_L_law_b1154
  rw [o1, Option.bind_some]
  dsimp only
  rw [if_pos rfl, f1, Option.bind_some]
  dsimp only
  rw [t_asked, Option.bind_some, i1, Option.bind_some]
  rcases f2 with ⟨rfl, rfl, f3⟩ | ⟨b, hb, rfl, rfl, c1, c2, c3⟩
  · have hn : ¬ lawF R A needs forbids (tautF (ks 0 D0)) = 0 := fun h => f3 0 (by omega) hc0 (by show lawF R A needs forbids (tautF (ap (ks 0 D0) (nI 0))) = 0; rw [ap_0]; exact h)
    rw [(if_pos (by first | rfl | trivial)), if_neg hn]
    unfold M_L_law_b1247
    show M_L_law_b1250 xs L (999999 + 1) _ _ _ _ _ _ _ _ _ _ _ _ _ _ _ _ = some ()
    rw [M_L_law_b1250, if_neg (show ¬ nI R ≤ 0 from nI_nle (by omega) (by omega)), if_pos (by decide)]
    exact L_1297 hL hB hz hsc ha i2 (by omega) (.inl rfl)
  · have hp6 := pc_le6' (nI b)
    have hand : nI b &&& M_X5_parted (ks 0 D0) = 0 := bx_0.mpr (fun j hj => by
      rw [b_and, st_parted _ hj]
      cases hbj : bt (nI b) j
      · rfl
      · rw [(cfB_iff.mp c1 j hj hbj).2.2, Bool.and_false, Bool.and_false])
    have b0 : pc (nI b) = 0 → b = 0 := fun h => by
      rcases Nat.eq_zero_or_pos b with q | q
      · exact q
      · have := pc_1 b hb q; omega
    have hiff : pc (nI b) = 0 ↔ lawF R A needs forbids (tautF (ks 0 D0)) = 0 := by
      constructor
      · intro h
        have c2' : lawF R A needs forbids (tautF (ap (ks 0 D0) (nI b))) = 0 := c2
        rw [b0 h, ap_0] at c2'
        exact c2'
      · intro h
        have := c3 0 (by omega) hc0 (by show lawF R A needs forbids (tautF (ap (ks 0 D0) (nI 0))) = 0; rw [ap_0]; exact h)
        rw [show pc (nI 0) = 0 from pc_0] at this
        omega
    rw [if_neg (pu_nI9 (by omega)), if_neg (nI_pos (by omega)), bits_T b hb, Option.bind_some, if_pos rfl, if_pos hand]
    unfold M_L_law_b1232 M_L_law_b1242 M_L_law_b1247
    by_cases q : pc (nI b) = 0
    · rw [q, if_pos (show nI 0 = 0 from rfl), if_pos (hiff.mp q), if_pos rfl]
      show M_L_law_b1250 xs L (999999 + 1) _ _ _ _ _ _ _ _ _ _ _ _ _ _ _ _ = some ()
      rw [M_L_law_b1250, if_neg (show ¬ nI R ≤ 0 from nI_nle (by omega) (by omega)), if_pos (by decide)]
      exact L_1297 hL hB hz hsc ha i2 (by omega) (.inr ⟨0, by omega, rfl, hVs, by rw [eS]; exact hiff.mp q⟩)
    · rw [if_neg (eN 0 q (by omega)), if_neg (fun h => q (hiff.mpr h)), if_pos rfl]
      exact L_1250 hL hB hz hsc ha i2 hb rfl (by omega) c1 c2 c3 R 0 x_fuel D0 st' (by omega) (by unfold x_fuel; omega) (by omega) (by rw [eS, Nat.pow_zero, Nat.mod_one, ap_0])
end
