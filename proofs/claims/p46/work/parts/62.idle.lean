/-! THE LAW: what is shared, what is idle -/
theorem off_b (s : Int64) {j : Nat} (hj : j < 6) : bt (M_X5_letGo s ||| M_X5_parted s) j = (bl s (24 + j) || bl s (30 + j)) := by
  rw [b_or, st_letGo s (by omega), st_parted s (by omega), decide_eq_true hj, Bool.true_and, Bool.true_and]
theorem par_b (s : Int64) {j : Nat} (hj : j < 6) : bt (M_X5_parted s) j = bl s (30 + j) := by
  rw [st_parted s (by omega), decide_eq_true hj, Bool.true_and]
theorem cfB_1 {R : Nat} {s : Int64} {j : Nat} (hj : j < 32) : cfB R s ((1 : Int32) <<< (nI j &&& 31)) = true ↔ j < R ∧ j < 6 ∧ bl s (30 + j) = false := by
  rw [cfB_iff]
  constructor
  · intro h
    exact h j hj (by rw [b_sb hj hj, decide_eq_true rfl])
  · intro h i hi hb
    rw [b_sb hj hi] at hb
    rw [of_decide_eq_true hb]
    exact h
section
variable {R A D : Nat} {kinds strengths moved needs forbids : Nat → Int32} {Y : x_Y} {lf : Int32} {la : Int32} {up : Int64} {lo : Int64} {rsz : Nat → Int32} {rpl : Nat → Nat → Int32} {st : Nat → Int64} {ks : Nat → Nat → Int64} {kz : Nat → Int32} {fc : Nat → Int32} {rch : Int32} {tr : Nat → Int32}
variable {D0 L : Nat} {xs row row' sc : Nat → Int32}
theorem t_at4 {z0 i : Nat} (hz : z0 ≤ 40) (h : rsz 4 = nI z0) (hi : i < z0) : M_LR_at (TS Y R A kinds strengths moved needs forbids lf la up lo rsz rpl st (nI D) ks kz fc rch tr) (4 : Int32) (nI i) = some (1, (TS Y R A kinds strengths moved needs forbids lf (rpl 4 i) up lo rsz rpl st (nI D) ks kz fc rch tr)) := t_at (r := 4) (by decide) hz h hi
theorem L_1451 (hL : L ≤ 260) (hB : HB R A D0 kinds strengths moved needs forbids row row' Y ks kz) (hz : zk 6 40 rsz) (hst : ∀ d, d ≤ D0 → st d = ks 0 d) (hsc : ∀ i, i < R → sc i = nI (sv (ks 0 D0) i)) {a : Nat} (ha : a < A) {v l : Nat} {g : Nat → Nat} (hv : v ≤ 60) (h4 : rsz 4 = nI R) (hq : ∀ i, i < R → rpl 4 i = nI (g i) ∧ g i ≤ fr R kinds strengths (ks 0 D0) i) (hgl : smG g R + l = v) (hl : 0 < l → smG g R = smG (fr R kinds strengths (ks 0 D0)) R) :
    ∀ (d k fu : Nat) (la : Int32), k + d = R → d < fu → M_L_law_b1451 xs L fu row' (TS Y R A kinds strengths moved needs forbids lf la up lo rsz rpl st (nI D0) ks kz fc rch tr) sc (nI R) (nI A) (nI D0) (M_X5_frostIn (ks 0 D0)) (tautF (ks 0 D0)) (M_X5_letGo (ks 0 D0)) (M_X5_parted (ks 0 D0)) (lawF R A needs forbids (tautF (ks 0 D0))) (nI a) (nI v) (nI l) (nI (smG (fr R kinds strengths (ks 0 D0)) k)) (nI (smG g k)) (nI k) = some () := by
  have hRS := hB.2.1
  have hR := hRS.1
  have hD0 : D0 ≤ 9 := hB.2.2.2.1
  have eS : st D0 = ks 0 D0 := hst D0 (Nat.le_refl _)
  intro d
  induction d with
  | zero =>
    intro k fu la h1 h2
    obtain ⟨fu, rfl⟩ : ∃ q, fu = q + 1 := ⟨fu - 1, by omega⟩
    obtain rfl : k = R := by omega
    rw [M_L_law_b1451, if_pos (pu_le (by omega) (by omega) (Nat.le_refl k)), if_neg (nI_pos (by omega)), nI_add, hgl, if_pos rfl]
    by_cases q : l = 0
    · subst q
      rw [if_pos (show nI 0 ≤ 0 by decide)]
      exact L_1587 hL hB hz hst ha
    · rw [if_neg (nI_nle (by omega) (by omega)), hl (by omega), if_pos rfl]
      exact L_1587 hL hB hz hst ha
  | succ d ih =>
    intro k fu la h1 h2
    obtain ⟨fu, rfl⟩ : ∃ q, fu = q + 1 := ⟨fu - 1, by omega⟩
    have hk : k < R := by omega
    obtain ⟨g1, g2⟩ := hq k hk
    obtain ⟨e1, e2⟩ := hd_e hRS hk
    have hsv := sv_lt (ks 0 D0) k
    have hfr : fr R kinds strengths (ks 0 D0) k ≤ 10 := by unfold fr; split <;> omega
    have go : ∀ la : Int32, M_L_law_b1522 xs L (fun (row_c' : (Nat → Int32)) (S' : x_S) (strains_c' : (Nat → Int32)) (x3' : Int32) (x4' : Int32) (x5' : Int32) (x6' : Int32) (x7' : Int32) (x8' : Int32) (x9' : Int32) (x10' : Int32) (x13' : Int32) (x18' : Int32) (x19' : Int32) (x20' : Int32) (x21' : Int32) (x22' : Int32) => M_L_law_b1451 xs L fu row_c' S' strains_c' x3' x4' x5' x6' x7' x8' x9' x10' x13' x18' x19' x20' x21' x22') row' (TS Y R A kinds strengths moved needs forbids lf la up lo rsz rpl st (nI D0) ks kz fc rch tr) sc (nI R) (nI A) (nI D0) (M_X5_frostIn (ks 0 D0)) (tautF (ks 0 D0)) (M_X5_letGo (ks 0 D0)) (M_X5_parted (ks 0 D0)) (lawF R A needs forbids (tautF (ks 0 D0))) (nI a) (nI v) (nI l) (nI (smG (fr R kinds strengths (ks 0 D0)) k)) (nI (smG g k)) (nI k) (nI (g k)) (nI (fr R kinds strengths (ks 0 D0) k)) = some () := fun la => by
      unfold M_L_law_b1522
      rw [if_neg (nI_pos (by omega)), if_pos (pu_le (by omega) (by omega) g2), nI_add, nI_add, nI_1]
      exact ih (k + 1) fu la (by omega) (by omega)
    rw [M_L_law_b1451, if_neg (nI_ge hk (by omega)), t_at4 (z0 := R) (by omega) h4 hk, Option.bind_some]
    dsimp only
    rw [(if_pos (by first | rfl | trivial)), t_asked, Option.bind_some, g1]
    unfold M_L_law_b1476 M_L_law_b1509
    rw [bitI _ (show k < 32 by omega), off_b _ (show k < 6 by omega)]
    cases hb : (bl (ks 0 D0) (24 + k) || bl (ks 0 D0) (30 + k))
    · have ef : fr R kinds strengths (ks 0 D0) k = hd R kinds strengths k - sv (ks 0 D0) k := by unfold fr fastB; rw [hb]; rfl
      rw [if_neg (show ¬ (if false = true then (1 : Int32) else 0) = 1 by decide), t_told1 (by omega) hRS hk, Option.bind_some, if_pos (pu_inb (by omega) (by decide)), nI_clamp (by omega), hsc k hk]
      dsimp only
      by_cases q : sv (ks 0 D0) k ≤ hd R kinds strengths k
      · rw [pk_sub q, if_pos (nI_pos' (by omega)), ← ef]
        exact go _
      · have : ¬ 0 ≤ nI (hd R kinds strengths k) - nI (sv (ks 0 D0) k) := fun h => by
          rw [Int32.le_iff_toInt_le, pk_sub_toInt (by omega) (by omega)] at h
          have e : ((0 : Int32)).toInt = 0 := by decide
          omega
        rw [if_neg this]
        have e0 : fr R kinds strengths (ks 0 D0) k = 0 := by omega
        have := go (nI (hd R kinds strengths k))
        rw [e0] at this
        exact this
    · rw [if_pos (show (if true = true then (1 : Int32) else 0) = 1 by decide), if_pos (show (0 : Int32) ≤ 0 by decide)]
      have e0 : fr R kinds strengths (ks 0 D0) k = 0 := by unfold fr fastB; rw [hb]; rfl
      have := go (nI (g k))
      rw [e0] at this
      exact this
theorem L_1337 (hL : L ≤ 260) (hB : HB R A D0 kinds strengths moved needs forbids row row' Y ks kz) (hz : zk 6 40 rsz) (hsc : ∀ i, i < R → sc i = nI (sv (ks 0 D0) i)) {a : Nat} (ha : a < A) {iv : Int32} (hiv : ∀ j, j < 32 → bt iv j = (decide (j < R) && cfB R (ks 0 D0) ((1 : Int32) <<< (nI j &&& 31)) && decide (lawF R A needs forbids (tautF (ap (ks 0 D0) ((1 : Int32) <<< (nI j &&& 31)))) = lawF R A needs forbids (tautF (ks 0 D0))))) :
    ∀ (d k fu : Nat) (la : Int32) (st : Nat → Int64), k + d = R → d < fu → (∀ d, d ≤ D0 → st d = ks 0 d) → M_L_law_b1337 xs L fu row' (TS Y R A kinds strengths moved needs forbids lf la up lo rsz rpl st (nI D0) ks kz fc rch tr) sc (nI R) (nI A) (nI D0) (M_X5_frostIn (ks 0 D0)) (tautF (ks 0 D0)) (M_X5_letGo (ks 0 D0)) (M_X5_parted (ks 0 D0)) (lawF R A needs forbids (tautF (ks 0 D0))) (nI a) iv (nI k) = some () := by
  have hRS := hB.2.1
  have hR := hRS.1
  have hR1 := hB.1.1
  have hD0 : D0 ≤ 9 := hB.2.2.2.1
  have hkz : kz 0 = nI D0 := hB.2.2.2.2.1
  have hV := hB.2.2.2.2.2.2.2.2.1
  intro d
  induction d with
  | zero =>
    intro k fu la st h1 h2 hst
    have eS : st D0 = ks 0 D0 := hst D0 (Nat.le_refl _)
    obtain ⟨fu, rfl⟩ : ∃ q, fu = q + 1 := ⟨fu - 1, by omega⟩
    obtain rfl : k = R := by omega
    obtain ⟨c, ec⟩ := cl_T xs hL (k := 15) (by omega)
    obtain ⟨v, hv, ev⟩ := up_T c (n := 61) (by decide) (by decide)
    obtain ⟨l, q, g, s1, s2, s3, s4⟩ := t_share (Y := Y) (A := A) (lf := lf) (la := la) (up := up) (lo := lo) (rsz := rsz) (rpl := rpl) (st := st) (D := D0) (ks := ks) (kz := kz) (fc := fc) (rch := rch) (tr := tr) (by omega) (by omega) hRS (show v ≤ 60 by omega)
    rw [eS] at s2 s4
    rw [M_L_law_b1337, if_pos (pu_le (by omega) (by omega) (Nat.le_refl k))]
    show Option.bind (M_L_cell xs L (nI 15)) _ = some ()
    rw [ec, Option.bind_some]
    show Option.bind (M_L_up c (nI 61)) _ = some ()
    rw [ev, Option.bind_some, s1, Option.bind_some]
    exact L_1451 (rpl := upd2 rpl 4 q) (g := g) hL hB (zk_upd hz (by omega)) hst hsc ha (by omega) pu_us (fun i hi => by rw [pu_2s]; exact s2 i hi) s3 s4 k 0 x_fuel la (by omega) (by unfold x_fuel; omega)
  | succ d ih =>
    intro k fu la st h1 h2 hst
    have eS : st D0 = ks 0 D0 := hst D0 (Nat.le_refl _)
    obtain ⟨fu, rfl⟩ : ∃ q, fu = q + 1 := ⟨fu - 1, by omega⟩
    have hk : k < R := by omega
    rw [M_L_law_b1337, if_neg (nI_ge hk (by omega)), bitI _ (show k < 32 by omega), par_b _ (show k < 6 by omega)]
    cases hp : bl (ks 0 D0) (30 + k)
    · have hp' : bl (st D0) (30 + k) = false := by rw [eS]; exact hp
      rw [if_pos (show (if false = true then (1 : Int32) else 0) = 0 by decide), t_cut (by omega) hR hk hp', Option.bind_some]
      dsimp only
      rw [eS]
      obtain ⟨pv, hpv, epv⟩ := pt64 (ks 0 D0)
      obtain ⟨pw, hpw, epw⟩ := pt64 (ap (ks 0 D0) ((1 : Int32) <<< (nI k &&& 31)))
      have ebc : M_J6_bitCount_0f7a4 (M_X5_parted (ap (ks 0 D0) ((1 : Int32) <<< (nI k &&& 31)))) = M_J6_bitCount_0f7a4 (M_X5_parted (ks 0 D0)) + 1 := by
        have e1 : pc (nI pw) = pc (nI pv) + 1 := by
          rw [← epw, ← epv, ap_parted _ (fun j h6 h7 => by rw [b_sb (by omega) h7, decide_eq_false (by omega)])]
          exact pc_add (by omega) (by rw [par_b _ (show k < 6 by omega)]; exact hp)
        rw [epw, epv, bcN hpw, bcN hpv, nI_1, e1]
      rw [bits_E (pt64 _), Option.bind_some, if_pos ebc, t_lawful (by omega) (by omega) (by rw [pk_uLs]; exact V_ap hV _), Option.bind_some, pk_uLs]
      have hbt : bt iv k = decide (lawF R A needs forbids (tautF (ap (ks 0 D0) ((1 : Int32) <<< (nI k &&& 31)))) = lawF R A needs forbids (tautF (ks 0 D0))) := by
        rw [hiv k (by omega), decide_eq_true hk, (cfB_1 (show k < 32 by omega)).mpr ⟨hk, by omega, hp⟩]; rfl
      obtain ⟨st', o1, o2⟩ := t_on (Y := Y) (R := R) (A := A) (kinds := kinds) (strengths := strengths) (moved := moved) (needs := needs) (forbids := forbids) (lf := lf) (la := la) (up := up) (lo := lo) (rsz := rsz) (rpl := rpl) (st := vp_updL st (D0 + 1) (ap (ks 0 D0) ((1 : Int32) <<< (nI k &&& 31)))) (D := D0 + 1) (ks := ks) (fc := fc) (rch := rch) (tr := tr) (D0 := D0) (by omega) hkz
      have go : ∀ x y : Int32, x = y → M_L_law_b1399 xs L (fun (row_c' : (Nat → Int32)) (S' : x_S) (strains_c' : (Nat → Int32)) (x3' : Int32) (x4' : Int32) (x5' : Int32) (x6' : Int32) (x7' : Int32) (x8' : Int32) (x9' : Int32) (x10' : Int32) (x13' : Int32) (x17' : Int32) (x18' : Int32) => M_L_law_b1337 xs L fu row_c' S' strains_c' x3' x4' x5' x6' x7' x8' x9' x10' x13' x17' x18') row' (TS Y R A kinds strengths moved needs forbids lf la up lo rsz rpl (vp_updL st (D0 + 1) (ap (ks 0 D0) ((1 : Int32) <<< (nI k &&& 31)))) (nI (D0 + 1)) ks kz fc rch tr) sc (nI R) (nI A) (nI D0) (M_X5_frostIn (ks 0 D0)) (tautF (ks 0 D0)) (M_X5_letGo (ks 0 D0)) (M_X5_parted (ks 0 D0)) (lawF R A needs forbids (tautF (ks 0 D0))) (nI a) iv (nI k) x y = some () := fun x y hxy => by
        unfold M_L_law_b1399 M_L_law_b1414
        rw [if_pos hxy, o1, Option.bind_some]
        dsimp only
        rw [if_pos rfl, nI_1]
        exact ih (k + 1) fu la st' (by omega) (by omega) o2
      unfold M_L_law_b1383
      rw [bitI _ (show k < 32 by omega), hbt]
      by_cases q : lawF R A needs forbids (tautF (ap (ks 0 D0) ((1 : Int32) <<< (nI k &&& 31)))) = lawF R A needs forbids (tautF (ks 0 D0))
      · rw [if_pos q, decide_eq_true q, if_pos (show (if true = true then (1 : Int32) else 0) = 1 by decide)]
        exact go _ _ rfl
      · rw [if_neg q, decide_eq_false q, if_neg (show ¬ (if false = true then (1 : Int32) else 0) = 1 by decide)]
        exact go _ _ rfl
    · rw [if_neg (show ¬ (if true = true then (1 : Int32) else 0) = 0 by decide)]
      unfold M_L_law_b1414
      rw [nI_1]
      exact ih (k + 1) fu la st (by omega) (by omega) hst
theorem L_1309 (hL : L ≤ 260) (hB : HB R A D0 kinds strengths moved needs forbids row row' Y ks kz) (hz : zk 6 40 rsz) (hsc : ∀ i, i < R → sc i = nI (sv (ks 0 D0) i)) {a : Nat} (ha : a < A) {iv : Int32} (hiv : ∀ j, j < 32 → bt iv j = (decide (j < R) && cfB R (ks 0 D0) ((1 : Int32) <<< (nI j &&& 31)) && decide (lawF R A needs forbids (tautF (ap (ks 0 D0) ((1 : Int32) <<< (nI j &&& 31)))) = lawF R A needs forbids (tautF (ks 0 D0))))) :
    M_L_law_b1309 xs L row' (TS Y R A kinds strengths moved needs forbids lf la up lo rsz rpl st (nI D) ks kz fc rch tr) sc (nI R) (nI A) (nI D0) (M_X5_frostIn (ks 0 D0)) (tautF (ks 0 D0)) (M_X5_letGo (ks 0 D0)) (M_X5_parted (ks 0 D0)) (lawF R A needs forbids (tautF (ks 0 D0))) (nI a) iv = some () := by
  have hR := hB.2.1.1
  have hkz : kz 0 = nI D0 := hB.2.2.2.2.1
  have hD0 : D0 ≤ 9 := hB.2.2.2.1
  obtain ⟨st', o1, o2⟩ := t_on (Y := Y) (R := R) (A := A) (kinds := kinds) (strengths := strengths) (moved := moved) (needs := needs) (forbids := forbids) (lf := lf) (la := la) (up := up) (lo := lo) (rsz := rsz) (rpl := rpl) (st := st) (D := D) (ks := ks) (fc := fc) (rch := rch) (tr := tr) (D0 := D0) (by omega) hkz
  obtain ⟨w, hw, ew⟩ := b_s64 (x := iv) (fun j h6 h7 => by rw [hiv j h7, decide_eq_false (by omega), Bool.false_and, Bool.false_and])
  have hand : iv &&& M_X5_parted (ks 0 D0) = 0 := bx_0.mpr (fun j hj => by
    rw [b_and, st_parted _ hj]
    cases hb : bt iv j
    · rfl
    · rw [hiv j hj, Bool.and_eq_true, Bool.and_eq_true] at hb
      obtain ⟨-, -, h3⟩ := (cfB_1 hj).mp hb.1.2
      rw [h3, Bool.and_false, Bool.and_false])
  unfold M_L_law_b1309
  rw [o1, Option.bind_some]
  dsimp only
  rw [if_pos rfl, if_neg (by rw [ew]; exact nI_pos (by omega)), if_pos hand]
  exact L_1337 hL hB hz hsc ha hiv R 0 x_fuel la st' (by omega) (by unfold x_fuel; omega) o2
end
