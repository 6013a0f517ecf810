/-! THE LAW: hauls -/
theorem smG_ge {g : Nat → Nat} {i : Nat} : ∀ k, i < k → g i ≤ smG g k := by
  intro k
  induction k with
  | zero => intro h; exact absurd h (by omega)
  | succ k ih =>
    intro h
    show g i ≤ smG g k + g k
    by_cases e : i = k
    · subst e; omega
    · have := ih (by omega); omega
theorem wh_n {R : Nat} {kinds strengths moved : Nat → Int32} {s : Int64} {i v w : Nat} (hw : w < 6) (hb : bl s (30 + w) = false) (h : M_X5_parted (hS R kinds strengths moved s i v) = M_X5_parted s ||| ((1 : Int32) <<< (nI w &&& 31))) : wh R kinds strengths moved s i v = nI w := by
  have e : (M_X5_parted s ||| ((1 : Int32) <<< (nI w &&& 31))) &&& (M_X5_parted s ^^^ (-1)) = ((1 : Int32) <<< (nI w &&& 31)) := by
    apply b_ext
    intro k hk
    rw [b_and, b_or, b_not _ hk, b_sb (by omega) hk, st_parted s hk]
    by_cases q : k = w
    · subst q; rw [hb]; simp
    · rw [decide_eq_false q, Bool.or_false, Bool.and_not_self]
  unfold wh M_X6_firstParted
  rw [h, e, if_neg (ntz_b w hw).2, (ntz_b w hw).1]
section
variable {R A D : Nat} {kinds strengths moved needs forbids : Nat → Int32} {Y : x_Y} {lf : Int32} {la : Int32} {up : Int64} {lo : Int64} {rsz : Nat → Int32} {rpl : Nat → Nat → Int32} {st : Nat → Int64} {ks : Nat → Nat → Int64} {kz : Nat → Int32} {fc : Nat → Int32} {rch : Int32} {tr : Nat → Int32}
variable {D0 L : Nat} {xs row row' sc : Nat → Int32}
variable {i : Nat} {k438 : (Nat → Int32) → x_S → (Nat → Int32) → Int32 → Int32 → Int32 → Int32 → Int32 → Int32 → Int32 → Int32 → Int32 → Option (Unit)}
/-- how a haul ends: none parts, or one -/
theorem wh_C {m : Nat → Int32} (hRS : pu_RS R A kinds strengths moved needs forbids m) {s : Int64} (hi : i < R) (hf : fastB s i = true) {v : Nat} (h0 : 0 < v) (hv : v < 50) :
    (wh R kinds strengths moved s i v = -9 ∧ M_X5_parted (hS R kinds strengths moved s i v) = M_X5_parted s ∧ (∀ j, j < 6 → bt (hC R kinds strengths moved s i v) j = true → sv s j < sv (hS R kinds strengths moved s i v) j)) ∨
    (∃ w, w < R ∧ wh R kinds strengths moved s i v = nI w ∧ bt (hC R kinds strengths moved s i v) w = true ∧ M_X5_parted (hS R kinds strengths moved s i v) = M_X5_parted s ||| ((1 : Int32) <<< (nI w &&& 31)) ∧ sv (hS R kinds strengths moved s i v) w = 0 ∧ (∀ j, j < 6 → j ≠ w → bt (hC R kinds strengths moved s i v) j = true → sv s j < sv (hS R kinds strengths moved s i v) j)) := by
  obtain ⟨f1, f2⟩ := fast_T hf
  obtain ⟨-, g, -, -⟩ := hx_H hRS hi f1 f2 h0 hv
  have hR := hRS.1
  rcases g.2.2.2.2.2.2 with ⟨h1, h2⟩ | ⟨w, w1, w2, w3, w4, w5, w6, w7⟩
  · exact .inl ⟨wh_9 h1, h1, fun j hj hb => h2 j hj (b_0 j) hb⟩
  · exact .inr ⟨w, w1, wh_n (by omega) w4 w5, w3, w5, w6, fun j hj hjw hb => w7 j hj hjw (b_0 j) hb⟩
theorem nI9_0 : ¬ (0 : Int32) ≤ -9 := by decide
theorem L_888 (hL : L ≤ 260) (hB : HB R A D0 kinds strengths moved needs forbids row row' Y ks kz) (hz : zk 6 40 rsz) (hst : ∀ d, d ≤ D0 → st d = ks 0 d) (hi : i < R) (hf : fastB (ks 0 D0) i = true) (hk : ∀ (la : Int32) (st : Nat → Int64) (rch : Int32), (∀ d, d ≤ D0 → st d = ks 0 d) → k438 row' (TS Y R A kinds strengths moved needs forbids lf la up lo rsz rpl st (nI D0) ks kz fc rch tr) sc (nI R) (nI A) (nI D0) (M_X5_frostIn (ks 0 D0)) (tautF (ks 0 D0)) (M_X5_letGo (ks 0 D0)) (M_X5_parted (ks 0 D0)) (lawF R A needs forbids (tautF (ks 0 D0))) (nI (i + 1)) = some ()) {x20 : Int32}
    (h : x20 = -9 ∨ ∃ p, 1 ≤ p ∧ p ≤ 20 ∧ x20 = nI p ∧ ∀ n, 1 ≤ n → n < p → wh R kinds strengths moved (ks 0 D0) i n = -9) :
    M_L_law_b888 xs L k438 row' (TS Y R A kinds strengths moved needs forbids lf la up lo rsz rpl st (nI D0) ks kz fc rch tr) sc (nI R) (nI A) (nI D0) (M_X5_frostIn (ks 0 D0)) (tautF (ks 0 D0)) (M_X5_letGo (ks 0 D0)) (M_X5_parted (ks 0 D0)) (lawF R A needs forbids (tautF (ks 0 D0))) (nI i) x20 = some () := by
  have hRS := hB.2.1
  have hR := hRS.1
  have hD0 : D0 ≤ 9 := hB.2.2.2.1
  have eS : st D0 = ks 0 D0 := hst D0 (Nat.le_refl _)
  unfold M_L_law_b888 M_L_law_b926
  rcases h with rfl | ⟨p, p1, p2, rfl, p3⟩
  · rw [if_pos (by decide), nI_1]; exact hk _ _ _ hst
  · by_cases q1 : p ≤ 1
    · rw [if_pos (show nI p ≤ 1 from aL 1 q1), nI_1]; exact hk _ _ _ hst
    · rw [if_neg (show ¬ nI p ≤ 1 from aN 1 (by omega) (by omega))]
      by_cases q2 : 11 ≤ p
      · rw [if_pos (gL 11 q2 (by omega)), nI_1]; exact hk _ _ _ hst
      · rw [if_neg (gN 11 (by omega)), show nI p - (1 : Int32) = nI (p - 1) from pk_sub (b := 1) p1, t_haul (by omega) hRS hi (by omega) (by omega) (by rw [eS]; exact hf), Option.bind_some]
        dsimp only
        rw [if_pos (show (if wh R kinds strengths moved (st D0) i (p - 1) = -9 then (0 : Int32) else 1) = 0 from if_pos (by rw [eS]; exact p3 (p - 1) (by omega) (by omega))), t_undo (D := D0 + 1) (by omega) (by omega), Option.bind_some]
        dsimp only
        rw [if_pos (show nI (D0 + 1 - D0) = 1 by rw [Nat.add_sub_cancel_left]; rfl), nI_1]
        exact hk _ _ _ (fun d hd => by rw [pk_uLn (by omega)]; exact hst d hd)
theorem L_837 (hL : L ≤ 260) (hB : HB R A D0 kinds strengths moved needs forbids row row' Y ks kz) (hz : zk 6 40 rsz) (hst : ∀ d, d ≤ D0 → st d = ks 0 d) (hi : i < R) (hf : fastB (ks 0 D0) i = true) (hk : ∀ (la : Int32) (st : Nat → Int64) (rch : Int32), (∀ d, d ≤ D0 → st d = ks 0 d) → k438 row' (TS Y R A kinds strengths moved needs forbids lf la up lo rsz rpl st (nI D0) ks kz fc rch tr) sc (nI R) (nI A) (nI D0) (M_X5_frostIn (ks 0 D0)) (tautF (ks 0 D0)) (M_X5_letGo (ks 0 D0)) (M_X5_parted (ks 0 D0)) (lawF R A needs forbids (tautF (ks 0 D0))) (nI (i + 1)) = some ()) {x20 x21 : Int32}
    (h : x20 = -9 ∨ ∃ p, 1 ≤ p ∧ p ≤ 20 ∧ x20 = nI p ∧ x21 = wh R kinds strengths moved (ks 0 D0) i p ∧ ¬ wh R kinds strengths moved (ks 0 D0) i p = -9 ∧ ∀ n, 1 ≤ n → n < p → wh R kinds strengths moved (ks 0 D0) i n = -9) :
    M_L_law_b837 xs L k438 row' (TS Y R A kinds strengths moved needs forbids lf la up lo rsz rpl st (nI D0) ks kz fc rch tr) sc (nI R) (nI A) (nI D0) (M_X5_frostIn (ks 0 D0)) (tautF (ks 0 D0)) (M_X5_letGo (ks 0 D0)) (M_X5_parted (ks 0 D0)) (lawF R A needs forbids (tautF (ks 0 D0))) (nI i) x20 x21 = some () := by
  have hRS := hB.2.1
  have hR := hRS.1
  have hD0 : D0 ≤ 9 := hB.2.2.2.1
  have eS : st D0 = ks 0 D0 := hst D0 (Nat.le_refl _)
  unfold M_L_law_b837
  rcases h with rfl | ⟨p, p1, p2, rfl, rfl, p4, p3⟩
  · rw [if_pos (by decide)]
    exact L_888 hL hB hz hst hi hf hk (.inl rfl)
  · rw [if_neg (nI_nle (by omega) (by omega))]
    by_cases q : 10 ≤ p
    · rw [if_pos (gL 10 q (by omega))]
      exact L_888 hL hB hz hst hi hf hk (.inr ⟨p, p1, p2, rfl, p3⟩)
    · rcases wh_C hRS hi hf (v := p) (by omega) (by omega) with ⟨h1, -⟩ | ⟨w, w1, w2, w3, w4, -, -⟩
      · exact absurd h1 p4
      · rw [if_neg (gN 10 (by omega)), t_haul (by omega) hRS hi (by omega) (by omega) (by rw [eS]; exact hf), Option.bind_some]
        dsimp only
        rw [if_pos (show (if wh R kinds strengths moved (st D0) i p = -9 then (0 : Int32) else 1) = 1 from if_neg (by rw [eS]; exact p4)), t_c6 (by omega), Option.bind_some, pk_uLs, eS, w2, bitI _ (show w < 32 by omega), w4, b_or, b_sb (by omega) (by omega), decide_eq_true rfl, Bool.or_true, if_pos (show (if true = true then (1 : Int32) else 0) = 1 by decide), t_undo (D := D0 + 1) (by omega) (by omega), Option.bind_some]
        dsimp only
        rw [if_pos (show nI (D0 + 1 - D0) = 1 by rw [Nat.add_sub_cancel_left]; rfl)]
        exact L_888 hL hB hz (fun d hd => by rw [pk_uLn (by omega)]; exact hst d hd) hi hf hk (.inr ⟨p, p1, p2, rfl, p3⟩)
theorem L_757 (hL : L ≤ 260) (hB : HB R A D0 kinds strengths moved needs forbids row row' Y ks kz) (hz : zk 6 40 rsz) (hst : ∀ d, d ≤ D0 → st d = ks 0 d) (hi : i < R) (hf : fastB (ks 0 D0) i = true) (hk : ∀ (la : Int32) (st : Nat → Int64) (rch : Int32), (∀ d, d ≤ D0 → st d = ks 0 d) → k438 row' (TS Y R A kinds strengths moved needs forbids lf la up lo rsz rpl st (nI D0) ks kz fc rch tr) sc (nI R) (nI A) (nI D0) (M_X5_frostIn (ks 0 D0)) (tautF (ks 0 D0)) (M_X5_letGo (ks 0 D0)) (M_X5_parted (ks 0 D0)) (lawF R A needs forbids (tautF (ks 0 D0))) (nI (i + 1)) = some ()) {v : Nat} (hv1 : 1 ≤ v) (hv : v ≤ 9) :
    M_L_law_b757 xs L k438 row' (TS Y R A kinds strengths moved needs forbids lf la up lo rsz rpl st (nI (D0 + 1)) ks kz fc rch tr) sc (nI R) (nI A) (nI D0) (M_X5_frostIn (ks 0 D0)) (tautF (ks 0 D0)) (M_X5_letGo (ks 0 D0)) (M_X5_parted (ks 0 D0)) (lawF R A needs forbids (tautF (ks 0 D0))) (nI i) (nI v) (wh R kinds strengths moved (ks 0 D0) i v) = some () := by
  have hRS := hB.2.1
  have hR := hRS.1
  have hD0 : D0 ≤ 9 := hB.2.2.2.1
  have eS : st D0 = ks 0 D0 := hst D0 (Nat.le_refl _)
  obtain ⟨r, la', rch', t1, t2⟩ := t_parts (Y := Y) (lf := lf) (la := la) (up := up) (lo := lo) (rsz := rsz) (rpl := rpl) (ks := ks) (kz := kz) (fc := fc) (rch := rch) (tr := tr) (D := D0) (st := st) (by omega) hRS hi (by rw [eS]; exact hf)
  rw [eS] at t2
  have hw : wh R kinds strengths moved (ks 0 D0) i v = -9 ∨ ∃ w, w < R ∧ wh R kinds strengths moved (ks 0 D0) i v = nI w := by
    rcases wh_C hRS hi hf (v := v) (by omega) (by omega) with ⟨h1, -⟩ | ⟨w, w1, w2, -⟩
    · exact .inl h1
    · exact .inr ⟨w, w1, w2⟩
  unfold M_L_law_b757
  rw [t_undo (D := D0 + 1) (by omega) (by omega), Option.bind_some]
  dsimp only
  rw [if_pos (show nI (D0 + 1 - D0) = 1 by rw [Nat.add_sub_cancel_left]; rfl), t1, Option.bind_some]
  dsimp only
  rw [t_asked, Option.bind_some]
  unfold M_L_law_b807 M_L_law_b824
  rcases t2 with ⟨rfl, t3⟩ | ⟨p, p1, p2, rfl, rfl, p4, p3⟩
  · rw [if_neg (show ¬ (-9 : Int32) = 0 by decide), if_neg (show ¬ (20 : Int32) < -9 by decide), (if_pos (by first | rfl | trivial)), t3 v hv1 (by omega), if_neg nI9_0, if_pos (show (-9 : Int32) ≤ 0 by decide)]
    exact L_837 hL hB hz hst hi hf hk (.inl rfl)
  · have fin := L_837 (xs := xs) (L := L) (up := up) (lo := lo) (rpl := rpl) (lf := lf) (fc := fc) (rch := rch') (tr := tr) (la := wh R kinds strengths moved (ks 0 D0) i p) hL hB hz hst hi hf hk (x20 := nI p) (x21 := wh R kinds strengths moved (ks 0 D0) i p) (.inr ⟨p, p1, p2, rfl, rfl, p4, p3⟩)
    have hin : ¬ wh R kinds strengths moved (ks 0 D0) i p < 0 ∧ wh R kinds strengths moved (ks 0 D0) i p < nI R := by
      rcases wh_C hRS hi hf (v := p) (by omega) (by omega) with ⟨h1, -⟩ | ⟨w, w1, w2, -⟩
      · exact absurd h1 p4
      · rw [w2]
        exact ⟨nI_pos (by omega), pu_lt (by omega) (by omega) w1⟩
    rw [if_neg (eN 0 (by omega) (by omega)), if_neg (rN 20 p2), if_neg (pu_nI9 (by omega)), if_neg (nI_nle (by omega) (by omega))]
    by_cases q : p ≤ v
    · rw [if_pos (pu_le (by omega) (by omega) q), if_neg hin.1, if_pos hin.2]
      exact fin
    · rw [if_neg (pu_nle (by omega) (by omega) (by omega)), p3 v hv1 (by omega), if_neg nI9_0, if_neg hin.1, if_pos hin.2]
      exact fin
theorem L_638 (hL : L ≤ 260) (hB : HB R A D0 kinds strengths moved needs forbids row row' Y ks kz) (hz : zk 6 40 rsz) (hst : ∀ d, d ≤ D0 → st d = ks 0 d) (hsc : ∀ i, i < R → sc i = nI (sv (ks 0 D0) i)) (hi : i < R) (hf : fastB (ks 0 D0) i = true) (hk : ∀ (la : Int32) (st : Nat → Int64) (rch : Int32), (∀ d, d ≤ D0 → st d = ks 0 d) → k438 row' (TS Y R A kinds strengths moved needs forbids lf la up lo rsz rpl st (nI D0) ks kz fc rch tr) sc (nI R) (nI A) (nI D0) (M_X5_frostIn (ks 0 D0)) (tautF (ks 0 D0)) (M_X5_letGo (ks 0 D0)) (M_X5_parted (ks 0 D0)) (lawF R A needs forbids (tautF (ks 0 D0))) (nI (i + 1)) = some ()) {v : Nat} (hv1 : 1 ≤ v) (hv : v ≤ 9) (hs1 : st (D0 + 1) = hS R kinds strengths moved (ks 0 D0) i v) :
    ∀ (d k fu : Nat) (la : Int32), k + d = R → d < fu → M_L_law_b638 xs L k438 fu row' (TS Y R A kinds strengths moved needs forbids lf la up lo rsz rpl st (nI (D0 + 1)) ks kz fc rch tr) sc (nI R) (nI A) (nI D0) (M_X5_frostIn (ks 0 D0)) (tautF (ks 0 D0)) (M_X5_letGo (ks 0 D0)) (M_X5_parted (ks 0 D0)) (lawF R A needs forbids (tautF (ks 0 D0))) (nI i) (nI v) (hC R kinds strengths moved (ks 0 D0) i v) (wh R kinds strengths moved (ks 0 D0) i v) (nI (smG (fun j => if nI j = wh R kinds strengths moved (ks 0 D0) i v then 0 else sv (hS R kinds strengths moved (ks 0 D0) i v) j - sv (ks 0 D0) j) k)) (nI k) = some () := by
  have hRS := hB.2.1
  have hR := hRS.1
  have hD0 : D0 ≤ 9 := hB.2.2.2.1
  obtain ⟨f1, f2⟩ := fast_T hf
  obtain ⟨-, g, gi, gv⟩ := hx_H hRS hi f1 f2 (v := v) (by omega) (by omega)
  have hW := wh_C hRS hi hf (v := v) (by omega) (by omega)
  intro d
  induction d with
  | zero =>
    intro k fu la h1 h2
    obtain ⟨fu, rfl⟩ : ∃ q, fu = q + 1 := ⟨fu - 1, by omega⟩
    obtain rfl : k = R := by omega
    have fin := L_757 (xs := xs) (L := L) (up := up) (lo := lo) (rpl := rpl) (lf := lf) (fc := fc) (rch := rch) (tr := tr) (la := la) hL hB hz hst hi hf hk hv1 hv
    rw [M_L_law_b638, if_pos (pu_le (by omega) (by omega) (Nat.le_refl k))]
    rcases hW with ⟨h3, h4, -⟩ | ⟨w, w1, w2, -⟩
    · have hge := smG_ge (g := fun j => if nI j = wh k kinds strengths moved (ks 0 D0) i v then 0 else sv (hS k kinds strengths moved (ks 0 D0) i v) j - sv (ks 0 D0) j) (i := i) k hi
      have hle := smG_le (g := fun j => if nI j = wh k kinds strengths moved (ks 0 D0) i v then 0 else sv (hS k kinds strengths moved (ks 0 D0) i v) j - sv (ks 0 D0) j) (f := fun _ => 16) k (fun j _ => by
        have := sv_lt (hS k kinds strengths moved (ks 0 D0) i v) j
        show (if _ then 0 else _) ≤ 16
        split
        · exact Nat.zero_le _
        · exact Nat.le_trans (Nat.sub_le _ _) (Nat.le_of_lt this))
      have h16 : ∀ q, smG (fun _ => 16) q = 16 * q := fun q => by
        induction q with
        | zero => rfl
        | succ q ih => show smG (fun _ => 16) q + 16 = _; rw [ih]; omega
      rw [h16] at hle
      rw [if_neg (show ¬ nI i = wh k kinds strengths moved (ks 0 D0) i v by rw [h3]; exact pu_nI9 (by omega))] at hge
      have := gv h4
      rw [if_neg (show ¬ (0 : Int32) ≤ wh k kinds strengths moved (ks 0 D0) i v by rw [h3]; exact nI9_0), if_neg (pu_nlt (by omega) (by omega) (by omega))]
      exact fin
    · rw [if_pos (show (0 : Int32) ≤ wh k kinds strengths moved (ks 0 D0) i v by rw [w2]; exact nI_pos' (by omega))]
      exact fin
  | succ d ih =>
    intro k fu la h1 h2
    obtain ⟨fu, rfl⟩ : ∃ q, fu = q + 1 := ⟨fu - 1, by omega⟩
    have hk6 : k < R := by omega
    have hge : ¬ nI k = wh R kinds strengths moved (ks 0 D0) i v → sv (ks 0 D0) k ≤ sv (hS R kinds strengths moved (ks 0 D0) i v) k := fun hne => by
      cases hb : bt (hC R kinds strengths moved (ks 0 D0) i v) k
      · rw [g.2.2.2.2.1 k (by omega) (.inr hb)]; exact Nat.le_refl _
      · rcases hW with ⟨h3, h4, h5⟩ | ⟨w, w1, w2, w3, w4, w5, w6⟩
        · exact Nat.le_of_lt (h5 k (by omega) hb)
        · exact Nat.le_of_lt (w6 k (by omega) (fun e => hne (by rw [w2, e])) hb)
    have i1 := fun la => ih (k + 1) fu la (by omega) (by omega)
    -- behind the sum
    have go : ∀ la : Int32, M_L_law_b697 xs L k438 (fun (row_c' : (Nat → Int32)) (S' : x_S) (strains_c' : (Nat → Int32)) (x3' : Int32) (x4' : Int32) (x5' : Int32) (x6' : Int32) (x7' : Int32) (x8' : Int32) (x9' : Int32) (x10' : Int32) (x13' : Int32) (x15' : Int32) (x16' : Int32) (x17' : Int32) (x19' : Int32) (x20' : Int32) => M_L_law_b638 xs L k438 fu row_c' S' strains_c' x3' x4' x5' x6' x7' x8' x9' x10' x13' x15' x16' x17' x19' x20') row' (TS Y R A kinds strengths moved needs forbids lf la up lo rsz rpl st (nI (D0 + 1)) ks kz fc rch tr) sc (nI R) (nI A) (nI D0) (M_X5_frostIn (ks 0 D0)) (tautF (ks 0 D0)) (M_X5_letGo (ks 0 D0)) (M_X5_parted (ks 0 D0)) (lawF R A needs forbids (tautF (ks 0 D0))) (nI i) (nI v) (hC R kinds strengths moved (ks 0 D0) i v) (wh R kinds strengths moved (ks 0 D0) i v) (nI (smG (fun j => if nI j = wh R kinds strengths moved (ks 0 D0) i v then 0 else sv (hS R kinds strengths moved (ks 0 D0) i v) j - sv (ks 0 D0) j) (k + 1))) (nI k) (nI (sv (hS R kinds strengths moved (ks 0 D0) i v) k)) = some () := fun la => by
      have k739 := i1 la
      unfold M_L_law_b697 M_L_law_b709 M_L_law_b739
      rw [nI_1, bitI _ (show k < 32 by omega)]
      have hsv := sv_lt (hS R kinds strengths moved (ks 0 D0) i v) k
      have hsv0 := sv_lt (ks 0 D0) k
      by_cases q : nI k = wh R kinds strengths moved (ks 0 D0) i v
      · rw [if_pos q]
        have e0 : sv (hS R kinds strengths moved (ks 0 D0) i v) k = 0 := by
          rcases hW with ⟨h3, -⟩ | ⟨w, w1, w2, w3, w4, w5, w6⟩
          · exact absurd (q.trans h3) (pu_nI9 (by omega))
          · have : k = w := (nI_eq (by omega) (by omega)).mp (q.trans w2)
            rw [this]; exact w5
        rw [e0, if_pos (show nI 0 = 0 from rfl), if_pos q]
        cases bt (hC R kinds strengths moved (ks 0 D0) i v) k
        · rw [if_neg (show ¬ (if false = true then (1 : Int32) else 0) = 1 by decide)]; exact k739
        · rw [if_pos (show (if true = true then (1 : Int32) else 0) = 1 by decide)]; exact k739
      · rw [if_neg q, if_neg q]
        cases hb : bt (hC R kinds strengths moved (ks 0 D0) i v) k
        · rw [if_neg (show ¬ (if false = true then (1 : Int32) else 0) = 1 by decide)]; exact k739
        · have hlt : sv (ks 0 D0) k < sv (hS R kinds strengths moved (ks 0 D0) i v) k := by
            rcases hW with ⟨h3, h4, h5⟩ | ⟨w, w1, w2, w3, w4, w5, w6⟩
            · exact h5 k (by omega) hb
            · exact w6 k (by omega) (fun e => q (by rw [w2, e])) hb
          rw [if_pos (show (if true = true then (1 : Int32) else 0) = 1 by decide), if_pos (pu_inb (by omega) (by decide)), nI_clamp (by omega), hsc k hk6, if_pos (pu_lt (by omega) (by omega) hlt)]
          exact k739
    have go2 : ∀ (la x y : Int32), x + y = nI (smG (fun j => if nI j = wh R kinds strengths moved (ks 0 D0) i v then 0 else sv (hS R kinds strengths moved (ks 0 D0) i v) j - sv (ks 0 D0) j) (k + 1)) → M_L_law_b674 xs L k438 (fun (row_c' : (Nat → Int32)) (S' : x_S) (strains_c' : (Nat → Int32)) (x3' : Int32) (x4' : Int32) (x5' : Int32) (x6' : Int32) (x7' : Int32) (x8' : Int32) (x9' : Int32) (x10' : Int32) (x13' : Int32) (x15' : Int32) (x16' : Int32) (x17' : Int32) (x19' : Int32) (x20' : Int32) => M_L_law_b638 xs L k438 fu row_c' S' strains_c' x3' x4' x5' x6' x7' x8' x9' x10' x13' x15' x16' x17' x19' x20') row' (TS Y R A kinds strengths moved needs forbids lf la up lo rsz rpl st (nI (D0 + 1)) ks kz fc rch tr) sc (nI R) (nI A) (nI D0) (M_X5_frostIn (ks 0 D0)) (tautF (ks 0 D0)) (M_X5_letGo (ks 0 D0)) (M_X5_parted (ks 0 D0)) (lawF R A needs forbids (tautF (ks 0 D0))) (nI i) (nI v) (hC R kinds strengths moved (ks 0 D0) i v) (wh R kinds strengths moved (ks 0 D0) i v) (nI k) (nI (sv (hS R kinds strengths moved (ks 0 D0) i v) k)) x y = some () := fun la x y hxy => by
      unfold M_L_law_b674
      rw [hxy, bitI _ (show k < 32 by omega)]
      cases hb : bt (hC R kinds strengths moved (ks 0 D0) i v) k
      · rw [if_pos (show (if false = true then (1 : Int32) else 0) = 0 by decide), if_pos (pu_inb (by omega) (by decide)), nI_clamp (by omega), hsc k hk6, if_pos (by rw [g.2.2.2.2.1 k (by omega) (.inr hb)])]
        exact go la
      · rw [if_neg (show ¬ (if true = true then (1 : Int32) else 0) = 0 by decide)]
        exact go la
    rw [M_L_law_b638, if_neg (nI_ge hk6 (by omega)), t_told3 (by omega) hR hk6, Option.bind_some]
    dsimp only
    rw [hs1]
    by_cases q : nI k = wh R kinds strengths moved (ks 0 D0) i v
    · rw [if_pos q]
      refine go2 _ _ _ ?_
      show _ = nI (smG _ k + (if nI k = wh R kinds strengths moved (ks 0 D0) i v then 0 else _))
      rw [if_pos q]
      exact nI_add _ 0
    · rw [if_neg q, if_pos (pu_inb (by omega) (by decide)), nI_clamp (by omega), hsc k hk6]
      refine go2 _ _ _ ?_
      show _ = nI (smG _ k + (if nI k = wh R kinds strengths moved (ks 0 D0) i v then 0 else _))
      rw [if_neg q, pk_sub (hge q), nI_add]
theorem L_462 (hL : L ≤ 260) (hB : HB R A D0 kinds strengths moved needs forbids row row' Y ks kz) (hz : zk 6 40 rsz) (hst : ∀ d, d ≤ D0 → st d = ks 0 d) (hsc : ∀ i, i < R → sc i = nI (sv (ks 0 D0) i)) (hi : i < R) (hk : ∀ (la : Int32) (st : Nat → Int64) (rch : Int32), (∀ d, d ≤ D0 → st d = ks 0 d) → k438 row' (TS Y R A kinds strengths moved needs forbids lf la up lo rsz rpl st (nI D0) ks kz fc rch tr) sc (nI R) (nI A) (nI D0) (M_X5_frostIn (ks 0 D0)) (tautF (ks 0 D0)) (M_X5_letGo (ks 0 D0)) (M_X5_parted (ks 0 D0)) (lawF R A needs forbids (tautF (ks 0 D0))) (nI (i + 1)) = some ()) :
    M_L_law_b462 xs L k438 row' (TS Y R A kinds strengths moved needs forbids lf la up lo rsz rpl st (nI D0) ks kz fc rch tr) sc (nI R) (nI A) (nI D0) (M_X5_frostIn (ks 0 D0)) (tautF (ks 0 D0)) (M_X5_letGo (ks 0 D0)) (M_X5_parted (ks 0 D0)) (lawF R A needs forbids (tautF (ks 0 D0))) (nI i) (if fastB (ks 0 D0) i = true then 1 else 0) = some () := by
  have hRS := hB.2.1
  have hR := hRS.1
  have hD0 : D0 ≤ 9 := hB.2.2.2.1
  have eS : st D0 = ks 0 D0 := hst D0 (Nat.le_refl _)
  obtain ⟨c, ec⟩ := cl_T xs hL (k := 13) (by omega)
  obtain ⟨u, hu, eu⟩ := up_T (c >>> (((4 : Int32) * nI i) &&& (31 : Int32))) (n := 9) (by decide) (by decide)
  unfold M_L_law_b462
  show Option.bind (M_L_cell xs L (nI 13)) _ = some ()
  rw [ec, Option.bind_some]
  show Option.bind (M_L_up _ (nI 9)) _ = some ()
  rw [eu, Option.bind_some, show (1 : Int32) + nI u = nI (1 + u) from nI_add 1 u]
  cases hf : fastB (ks 0 D0) i
  · have hf' : fastB (st D0) i = false := by rw [eS]; exact hf
    rw [t_movesN (by omega) hR hi (by omega) (by omega) hf', Option.bind_some]
    dsimp only
    rw [t_asked, Option.bind_some, t_haulN (by omega) hR hi (by omega) (by omega) hf', Option.bind_some]
    dsimp only
    rw [if_pos (show (if false = true then (1 : Int32) else 0) = 0 by decide), (if_pos (by first | rfl | trivial)), t_partsN (by omega) hR hi hf', Option.bind_some]
    dsimp only
    rw [(if_pos (by first | rfl | trivial))]
    unfold M_L_law_b926
    rw [nI_1]
    exact hk _ _ _ hst
  · have hf' : fastB (st D0) i = true := by rw [eS]; exact hf
    obtain ⟨f1, f2⟩ := fast_T hf
    obtain ⟨-, g, gi, gv⟩ := hx_H hRS hi f1 f2 (v := 1 + u) (by omega) (by omega)
    have hW := wh_C hRS hi hf (v := 1 + u) (by omega) (by omega)
    have fin := L_638 (xs := xs) (L := L) (up := up) (lo := lo) (rpl := rpl) (lf := lf) (fc := fc) (rch := hC R kinds strengths moved (ks 0 D0) i (1 + u)) (tr := tr) (st := vp_updL st (D0 + 1) (hS R kinds strengths moved (ks 0 D0) i (1 + u))) hL hB hz (fun d hd => by rw [pk_uLn (by omega)]; exact hst d hd) hsc hi hf hk (v := 1 + u) (by omega) (by omega) pk_uLs R 0 x_fuel (wh R kinds strengths moved (ks 0 D0) i (1 + u)) (by omega) (by unfold x_fuel; omega)
    have hM := t_moves (Y := Y) (A := A) (needs := needs) (forbids := forbids) (lf := lf) (la := la) (up := up) (lo := lo) (rsz := rsz) (rpl := rpl) (st := st) (ks := ks) (kz := kz) (fc := fc) (rch := rch) (tr := tr) (D := D0) (by omega) hRS hi (v := 1 + u) (by omega) (by omega) hf'
    have hH := t_haul (Y := Y) (A := A) (needs := needs) (forbids := forbids) (lf := lf) (la := wh R kinds strengths moved (ks 0 D0) i (1 + u)) (up := up) (lo := lo) (rsz := rsz) (rpl := rpl) (st := st) (ks := ks) (kz := kz) (fc := fc) (rch := hC R kinds strengths moved (ks 0 D0) i (1 + u)) (tr := tr) (D := D0) (by omega) hRS hi (v := 1 + u) (by omega) (by omega) hf'
    rw [eS] at hM hH
    rcases hW with ⟨h3, h4, h5⟩ | ⟨w, w1, w2, w3, w4, w5, w6⟩
    · rw [h3] at hM hH fin
      rw [if_pos rfl] at hH
      rw [hM, Option.bind_some]
      dsimp only
      rw [t_asked, Option.bind_some, hH, Option.bind_some]
      dsimp only
      rw [show (if true = true then (1 : Int32) else 0) = 1 from rfl, if_neg n10, if_neg (show ¬ (0 : Int32) < 0 by decide), if_neg (show ¬ (1 : Int32) < 0 by decide), if_pos (show (-9 : Int32) < 0 by decide)]
      unfold M_L_law_b566 M_L_law_b577 M_L_law_b603 M_L_law_b635
      rw [if_neg (show ¬ (0 : Int32) = 1 by decide), (if_pos (by first | rfl | trivial)), t_c6 (by omega), Option.bind_some, pk_uLs, if_neg nI9_0, if_pos h4, if_pos (bit1 (show i < 32 by omega) gi), if_pos (show (-9 : Int32) < 0 by decide)]
      exact fin
    · rw [w2] at hM hH fin
      rw [if_neg (pu_nI9 (show w < 2 ^ 31 by omega))] at hH
      rw [hM, Option.bind_some]
      dsimp only
      rw [t_asked, Option.bind_some, hH, Option.bind_some]
      dsimp only
      rw [show (if true = true then (1 : Int32) else 0) = 1 from rfl, if_neg n10, if_neg (show ¬ (1 : Int32) < 0 by decide), if_neg (show ¬ (1 : Int32) < 1 by decide), if_neg (nI_pos (show w < 2 ^ 31 by omega))]
      unfold M_L_law_b566 M_L_law_b577 M_L_law_b603 M_L_law_b635
      rw [(if_pos (by first | rfl | trivial)), (if_pos (by first | rfl | trivial)), t_c6 (by omega), Option.bind_some, pk_uLs, if_pos (nI_pos' (show w < 2 ^ 31 by omega)), if_pos w4, if_pos (bit1 (show i < 32 by omega) gi), if_neg (nI_pos (show w < 2 ^ 31 by omega)), if_pos (bit1 (show w < 32 by omega) w3)]
      exact fin
end
section
variable {R A D : Nat} {kinds strengths moved needs forbids : Nat → Int32} {Y : x_Y} {lf : Int32} {la : Int32} {up : Int64} {lo : Int64} {rsz : Nat → Int32} {rpl : Nat → Nat → Int32} {st : Nat → Int64} {ks : Nat → Nat → Int64} {kz : Nat → Int32} {fc : Nat → Int32} {rch : Int32} {tr : Nat → Int32}
variable {D0 L : Nat} {xs row row' sc : Nat → Int32}
theorem L_438 (hL : L ≤ 260) (hB : HB R A D0 kinds strengths moved needs forbids row row' Y ks kz) (hz : zk 6 40 rsz) (hsc : ∀ i, i < R → sc i = nI (sv (ks 0 D0) i)) :
    ∀ (d k fu : Nat) (la : Int32) (st : Nat → Int64) (rch : Int32), k + d = R → d < fu → (∀ d, d ≤ D0 → st d = ks 0 d) → M_L_law_b438 xs L fu row' (TS Y R A kinds strengths moved needs forbids lf la up lo rsz rpl st (nI D0) ks kz fc rch tr) sc (nI R) (nI A) (nI D0) (M_X5_frostIn (ks 0 D0)) (tautF (ks 0 D0)) (M_X5_letGo (ks 0 D0)) (M_X5_parted (ks 0 D0)) (lawF R A needs forbids (tautF (ks 0 D0))) (nI k) = some () := by
  have hRS := hB.2.1
  have hR := hRS.1
  have hA := hRS.2.1
  have hA1 := hB.1.2.2.1
  have hD0 : D0 ≤ 9 := hB.2.2.2.1
  have hV := hB.2.2.2.2.2.2.2.2.1
  intro d
  induction d with
  | zero =>
    intro k fu la st rch h1 h2 hst
    have eS : st D0 = ks 0 D0 := hst D0 (Nat.le_refl _)
    obtain ⟨fu, rfl⟩ : ∃ q, fu = q + 1 := ⟨fu - 1, by omega⟩
    obtain rfl : k = R := by omega
    obtain ⟨c, ec⟩ := cl_T xs hL (k := 14) (by omega)
    obtain ⟨a, ha, ea⟩ := up_T c (n := A) (by omega) (by omega)
    rw [M_L_law_b438, if_pos (pu_le (by omega) (by omega) (Nat.le_refl k))]
    show Option.bind (M_L_cell xs L (nI 14)) _ = some ()
    rw [ec, Option.bind_some, ea, Option.bind_some]
    rcases t_least (Y := Y) (lf := lf) (la := la) (up := up) (lo := lo) (rsz := rsz) (rpl := rpl) (ks := ks) (kz := kz) (fc := fc) (rch := rch) (tr := tr) (st := st) (D := D0) (by omega) (by rw [eS]; exact hV) ha with ⟨N, code, q, rch2, tr2, l1, l2, l3, l4⟩ | ⟨rch2, tr2, l2, l3⟩
    · rw [l2, Option.bind_some]
      dsimp only
      have en : ¬ nI N < -9 := fun h => by
        rw [Int32.lt_iff_toInt_lt, nI_toInt (by omega)] at h
        have e : ((-9 : Int32)).toInt = -9 := by decide
        omega
      rw [if_neg en, if_neg (rN 4 l1), if_pos (nI_pos' (by omega))]
      rw [eS] at l3
      exact L_979 hL hB (zk_upd hz (by omega)) hst hsc ha (.inl ⟨N, code, l1, rfl, pu_us, fun j hj => by rw [pu_2s]; exact l4 j hj, l3⟩)
    · rw [l2, Option.bind_some]
      dsimp only
      rw [if_neg (show ¬ (-9 : Int32) < -9 by decide), if_neg (show ¬ (4 : Int32) < -9 by decide), if_neg nI9_0, (if_pos (by first | rfl | trivial))]
      rw [eS] at l3
      exact L_979 hL hB hz hst hsc ha (.inr ⟨rfl, l3⟩)
  | succ d ih =>
    intro k fu la st rch h1 h2 hst
    obtain ⟨fu, rfl⟩ : ∃ q, fu = q + 1 := ⟨fu - 1, by omega⟩
    have hk : k < R := by omega
    have fin := L_462 (xs := xs) (L := L) (up := up) (lo := lo) (rpl := rpl) (lf := lf) (fc := fc) (rch := rch) (tr := tr) (la := la) (st := st) (i := k) (k438 := fun (row_c' : (Nat → Int32)) (S' : x_S) (strains_c' : (Nat → Int32)) (x3' : Int32) (x4' : Int32) (x5' : Int32) (x6' : Int32) (x7' : Int32) (x8' : Int32) (x9' : Int32) (x10' : Int32) (x13' : Int32) => M_L_law_b438 xs L fu row_c' S' strains_c' x3' x4' x5' x6' x7' x8' x9' x10' x13') hL hB hz hst hsc hk (fun la st rch h => ih (k + 1) fu la st rch (by omega) (by omega) h)
    rw [M_L_law_b438, if_neg (nI_ge hk (by omega)), bitI _ (show k < 32 by omega), off_b _ (show k < 6 by omega)]
    unfold fastB at fin
    cases hb : (bl (ks 0 D0) (24 + k) || bl (ks 0 D0) (30 + k))
    · rw [hb] at fin
      rw [if_pos (show (if false = true then (1 : Int32) else 0) = 0 by decide)]
      exact fin
    · rw [hb] at fin
      rw [if_neg (show ¬ (if true = true then (1 : Int32) else 0) = 0 by decide)]
      exact fin
end
