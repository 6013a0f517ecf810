/-! PURE PART: by what came on, duel, chances, the fewest deeds, on TS -/
theorem gp_T : ∀ s, s < 64 → ∀ n, n < 21 → ∃ g, g < 7 ∧ (M_X6_greatestPart (nI s) (nI n) = some (nI g) ∧ g ≤ pc (nI s) ∧ (¬ s = 0 → 1 ≤ g)) := by decide +kernel
theorem bits_T : ∀ k, k < 64 → M_L_bits (nI k) = some (nI (pc (nI k))) := by decide +kernel
section
variable {R A D : Nat} {kinds strengths moved needs forbids : Nat → Int32} {Y : x_Y} {lf : Int32} {la : Int32} {up : Int64} {lo : Int64} {rsz : Nat → Int32} {rpl : Nat → Nat → Int32} {st : Nat → Int64} {ks : Nat → Nat → Int64} {kz : Nat → Int32} {fc : Nat → Int32} {rch : Int32} {tr : Nat → Int32}
variable {m : Nat → Int32}
theorem pr_T {e : Nat} (he : e ≤ 8) (a : rsz 3 = nI (2 * e)) (c : ∀ i, i < 2 * e → ∃ v, v < 100 ∧ rpl 3 i = nI v) : M_X6_refusalOfPairs rsz rpl lf fc (nI 3) = some (0, lf, fc) := by
  unfold M_X6_refusalOfPairs M_X6_refusalOfMissing_rows
  have hm : nI (2 * e) - nI (2 * e) / (2 : Int32) * (2 : Int32) = nI (2 * e % 2) := pk_rem (d := 2) (by omega) (by omega) (by omega)
  rw [pu_isN (by decide) (by decide), if_neg (by decide), pu_there1 (by decide) (by decide) (show 2 * e < 2 ^ 31 by omega) a, Option.bind_some, if_neg (by decide), Option.bind_some, if_pos rfl, pu_size (by decide) (by decide), a, Option.bind_some, if_neg (rN 16 (by omega)), hm, Nat.mul_mod_right, if_pos (show nI 0 = 0 from rfl)]
  exact pu_lp (fun n k (_ : Unit) => M_X6_refusalOfPairs_b46 rsz rpl n lf fc (nI 3) (nI (2 * e)) (nI k) = some (0, lf, fc)) (fun _ _ => True) (2 * e) (by omega)
    (fun n _ _ => by rw [M_X6_refusalOfPairs_b46, if_pos (pu_le (by omega) (by omega) (Nat.le_refl _))])
    (fun n k _ hk _ ih => by
      obtain ⟨v, hv, ev⟩ := c k hk
      rw [M_X6_refusalOfPairs_b46, if_neg (nI_ge hk (by omega)), pu_get (by decide) (by decide) (show 2 * e ≤ 40 by omega) (by decide) a hk, Option.bind_some, Option.bind_some, ev, if_neg (nI_pos (by omega)), if_pos (aL 99 (by omega)), nI_1]
      exact ih () trivial)
    () trivial
theorem kb_T {e : Nat} (he : e ≤ 8) (a : rsz 3 = nI (2 * e)) :
    ∃ s, s < 64 ∧ M_X6_kindsThatFit rsz rpl (nI 3) = some (nI s) ∧ ∀ kk, kk < 6 → (∀ p, p < e → M_X6_passed (nI kk) (rpl 3 (2 * p)) = rpl 3 (2 * p + 1)) → bt (nI s) kk = true :=
  pu_lp (fun n k x => ∃ s, s < 64 ∧ M_X6_kindsThatFit_b4 rsz rpl n (nI 3) x (nI k) = some (nI s) ∧ ∀ kk, kk < 6 → (∀ p, p < e → M_X6_passed (nI kk) (rpl 3 (2 * p)) = rpl 3 (2 * p + 1)) → bt (nI s) kk = true)
    (fun k x => (∀ j, k ≤ j → j < 32 → bt x j = false) ∧ ∀ kk, kk < k → (∀ p, p < e → M_X6_passed (nI kk) (rpl 3 (2 * p)) = rpl 3 (2 * p + 1)) → bt x kk = true) 6 (by omega)
    (fun n x hx => by
      obtain ⟨s, h1, h2⟩ := b_s64 hx.1
      exact ⟨s, h1, by rw [M_X6_kindsThatFit_b4, if_pos (show (6 : Int32) ≤ nI 6 by decide), h2], by rw [← h2]; exact hx.2⟩)
    (fun n k x hk hx ih => by
      rw [M_X6_kindsThatFit_b4, if_neg (gN 6 hk)]
      have no : (¬ ∀ p, p < e → M_X6_passed (nI k) (rpl 3 (2 * p)) = rpl 3 (2 * p + 1)) → ∃ s, s < 64 ∧ M_X6_kindsThatFit_b4 rsz rpl n (nI 3) x (nI (k + 1)) = some (nI s) ∧ ∀ kk, kk < 6 → (∀ p, p < e → M_X6_passed (nI kk) (rpl 3 (2 * p)) = rpl 3 (2 * p + 1)) → bt (nI s) kk = true := fun hn => ih x ⟨fun j h1 h2 => hx.1 j (by omega) h2, fun kk h1 h2 => by
        by_cases q : kk = k
        · subst q; exact absurd h2 hn
        · exact hx.2 kk (by omega) h2⟩
      have yes := ih (x ||| ((1 : Int32) <<< (nI k &&& 31))) ⟨fun j h1 h2 => by rw [b_or, hx.1 j (by omega) h2, b_sb (by omega) h2, decide_eq_false (by omega)]; rfl, fun kk h1 h2 => by
        rw [b_or, b_sb (by omega) (by omega)]
        by_cases q : kk = k
        · rw [decide_eq_true q, Bool.or_true]
        · rw [hx.2 kk (by omega) h2]; rfl⟩
      exact pu_lp (fun n' p (x4 : Int32) => ∃ s, s < 64 ∧ M_X6_kindsThatFit_b16 rsz rpl (fun (x1' : Int32) (x2' : Int32) (x3' : Int32) => M_X6_kindsThatFit_b4 rsz rpl n x1' x2' x3') n' (nI 3) x (nI k) x4 (nI (2 * p)) = some (nI s) ∧ ∀ kk, kk < 6 → (∀ p, p < e → M_X6_passed (nI kk) (rpl 3 (2 * p)) = rpl 3 (2 * p + 1)) → bt (nI s) kk = true)
        (fun p x4 => (x4 = 0 ∧ ¬ ∀ p, p < e → M_X6_passed (nI k) (rpl 3 (2 * p)) = rpl 3 (2 * p + 1)) ∨ x4 = 1) e (by omega)
        (fun n' x4 h4 => by
          rw [M_X6_kindsThatFit_b16, pu_size (by decide) (by decide), a, Option.bind_some, nI_1, if_pos (pu_le (by omega) (by omega) (by omega))]
          unfold M_X6_kindsThatFit_b89
          simp only [nI_1]
          rcases h4 with ⟨h4, h5⟩ | h4
          · subst h4; simp only [if_pos p00]; exact no h5
          · subst h4; simp only [if_neg n10]; exact yes)
        (fun n' p x4 hp h4 ih2 => by
          rw [M_X6_kindsThatFit_b16, pu_size (by decide) (by decide), a, Option.bind_some, nI_1, if_neg (pu_nle (by omega) (by omega) (by omega)), pu_get (by decide) (by decide) (show 2 * e ≤ 40 by omega) (by decide) a (by omega), Option.bind_some, pu_get (by decide) (by decide) (show 2 * e ≤ 40 by omega) (by decide) a (by omega), Option.bind_some]
          unfold M_X6_kindsThatFit_b69 M_X6_kindsThatFit_b70
          have e2 : nI (2 * p) + (2 : Int32) = nI (2 * (p + 1)) := nI_add (2 * p) 2
          simp only [e2]
          rcases h4 with ⟨h4, h5⟩ | h4
          · subst h4; simp only [if_pos p00]; exact ih2 0 (.inl ⟨rfl, h5⟩)
          · subst h4; simp only [if_neg n10]
            by_cases w : M_X6_passed (nI k) (rpl 3 (2 * p)) = rpl 3 (2 * p + 1)
            · simp only [if_pos w]; exact ih2 1 (.inr rfl)
            · simp only [if_neg w]; exact ih2 0 (.inl ⟨rfl, fun h => w (h p hp)⟩))
        1 (.inr rfl))
    0 ⟨fun j _ _ => b_0 j, fun kk h => absurd h (by omega)⟩
theorem t_kinds {e s : Nat} (he : e ≤ 8) (a : rsz 3 = nI (2 * e)) (c : ∀ i, i < 2 * e → ∃ v, v < 100 ∧ rpl 3 i = nI v) (hk : M_X6_kindsThatFit rsz rpl (nI 3) = some (nI s)) : M_LR_kinds (TS Y R A kinds strengths moved needs forbids lf la up lo rsz rpl st (nI D) ks kz fc rch tr) (3 : Int32) = some (nI s, (TS Y R A kinds strengths moved needs forbids lf la up lo rsz rpl st (nI D) ks kz fc rch tr)) := by
  rw [b_kinds]; unfold M_X6_kinds
  show (Option.bind (M_X6_refusalOfPairs rsz rpl lf fc (nI 3)) _).bind _ = _
  rw [pr_T he a c, Option.bind_some, if_pos rfl]
  show (Option.bind (M_X6_kindsThatFit rsz rpl (nI 3)) _).bind _ = _
  rw [hk]
  rfl
theorem t_test {e s : Nat} (he : e ≤ 8) (a : rsz 3 = nI (2 * e)) (c : ∀ i, i < 2 * e → ∃ v, v < 100 ∧ rpl 3 i = nI v) (hk : M_X6_kindsThatFit rsz rpl (nI 3) = some (nI s)) (hs : s < 64) (h0 : ¬ s = 0) :
    ∃ b g, b ≤ 20 ∧ 1 ≤ g ∧ g ≤ pc (nI s) ∧ M_LR_test (TS Y R A kinds strengths moved needs forbids lf la up lo rsz rpl st (nI D) ks kz fc rch tr) (3 : Int32) = some (nI b, (TS Y R A kinds strengths moved needs forbids lf (nI g) up lo rsz rpl st (nI D) ks kz fc rch tr)) := by
  have key : ∃ b g, b ≤ 20 ∧ 1 ≤ g ∧ g ≤ pc (nI s) ∧ M_X6_test_b31 rsz rpl x_fuel lf la fc (nI s) (nI 0) (nI 1) = some (nI b, lf, nI g, fc) :=
    pu_loop (fun n k (z : Nat) => ∃ b g, b ≤ 20 ∧ 1 ≤ g ∧ g ≤ pc (nI s) ∧ M_X6_test_b31 rsz rpl n lf la fc (nI s) (nI z) (nI k) = some (nI b, lf, nI g, fc))
      (fun k z => z < 21) 21
      (fun n z h => by
        obtain ⟨g, g1, g2, g3, g4⟩ := gp_T s hs z h
        exact ⟨z, g, by omega, g4 h0, g3, by rw [M_X6_test_b31, if_pos (show (20 : Int32) < nI 21 by decide), g2]; rfl⟩)
      (fun n k z hk h ih => by
        obtain ⟨g, g1, g2, g3, g4⟩ := gp_T s hs z h
        obtain ⟨g', g1', g2', g3', g4'⟩ := gp_T s hs k hk
        rw [M_X6_test_b31, if_neg (rN 20 (by omega)), g2', Option.bind_some, g2, Option.bind_some]
        unfold M_X6_test_b57
        rw [nI_1]
        by_cases w : nI g ≤ nI g'
        · rw [if_pos w]; exact ih z h
        · rw [if_neg w]; exact ih k hk)
      20 x_fuel 1 0 (by omega) (by unfold x_fuel; omega) (by omega)
  obtain ⟨b, g, h1, h2, h3, h4⟩ := key
  refine ⟨b, g, h1, h2, h3, ?_⟩
  rw [b_test]; unfold M_X6_test
  show (Option.bind (M_X6_refusalOfPairs rsz rpl lf fc (nI 3)) _).bind _ = _
  rw [pr_T he a c, Option.bind_some, if_pos rfl]
  show (Option.bind (M_X6_kindsThatFit rsz rpl (nI 3)) _).bind _ = _
  rw [hk, Option.bind_some, if_neg (eN 0 h0 (by omega))]
  show (M_X6_test_b31 rsz rpl x_fuel lf la fc (nI s) (nI 0) (nI 1)).bind _ = _
  rw [h4]
  rfl
theorem t_who {e s : Nat} (hRS : pu_RS R A kinds strengths moved needs forbids m) (he : e ≤ 8) (a : rsz 3 = nI (2 * e)) (c : ∀ i, i < 2 * e → ∃ v, v < 100 ∧ rpl 3 i = nI v) (hk : M_X6_kindsThatFit rsz rpl (nI 3) = some (nI s)) {p kk : Nat} (hp : p < R) (hkk : kk < 6) (ek : kinds p = nI kk) (hb : bt (nI s) kk = true) :
    ∃ v, M_LR_who (TS Y R A kinds strengths moved needs forbids lf la up lo rsz rpl st (nI D) ks kz fc rch tr) (3 : Int32) = some (v, (TS Y R A kinds strengths moved needs forbids lf la up lo rsz rpl st (nI D) ks kz fc rch tr)) ∧ bt v p = true := by
  have hR := hRS.1
  have key : ∃ v, M_X6_who_b24 rsz rpl (nI R) kinds x_fuel lf fc (nI s) 0 (nI 0) = some (v, lf, fc) ∧ bt v p = true :=
    pu_lp (fun n k x => ∃ v, M_X6_who_b24 rsz rpl (nI R) kinds n lf fc (nI s) x (nI k) = some (v, lf, fc) ∧ bt v p = true)
      (fun k x => p < k → bt x p = true) R (by omega)
      (fun n x h => ⟨x, by rw [M_X6_who_b24, if_pos (pu_le (by omega) (by omega) (Nat.le_refl R))], h hp⟩)
      (fun n k x hk h ih => by
        obtain ⟨a1, ⟨k1, hk1, a2⟩, -⟩ := hRS.2.2.2.2.1 k hk
        rw [M_X6_who_b24, if_neg (nI_ge hk (by omega)), rs_kind hR hk, Option.bind_some]
        unfold M_X6_who_b61
        rw [nI_1]
        by_cases w : ((nI s >>> (kinds k &&& (31 : Int32))) &&& (1 : Int32)) = 0
        · rw [if_pos w]
          refine ih x (fun hpk => ?_)
          by_cases q : p = k
          · subst q
            rw [ek] at w
            rw [(b_bit _ (by omega)).mp w] at hb
            exact absurd hb (by decide)
          · exact h (by omega)
        · rw [if_neg w]
          refine ih _ (fun hpk => ?_)
          rw [b_or, b_sb (by omega) (by omega)]
          by_cases q : p = k
          · rw [decide_eq_true q, Bool.or_true]
          · rw [h (by omega)]; rfl)
      0 (fun h => absurd h (by omega))
  obtain ⟨v, k1, k2⟩ := key
  refine ⟨v, ?_, k2⟩
  rw [b_who]; unfold M_X6_who
  show (Option.bind (M_X6_refusalOfPairs rsz rpl lf fc (nI 3)) _).bind _ = _
  rw [pr_T he a c, Option.bind_some, if_pos rfl]
  show (Option.bind (M_X6_kindsThatFit rsz rpl (nI 3)) _).bind _ = _
  rw [hk, Option.bind_some]
  show (M_X6_who_b24 rsz rpl (nI R) kinds x_fuel lf fc (nI s) 0 (nI 0)).bind _ = _
  rw [k1]
  rfl
end
/-! duel -/
def endv (s : Int64) : Int32 := M_J6_bitCount_0f7a4 (M_X5_parted s &&& 42) - M_J6_bitCount_0f7a4 (M_X5_parted s &&& 21)
def ev (s : Int64) : Int := (pc (M_X5_parted s &&& 42) : Int) - pc (M_X5_parted s &&& 21)
theorem par64 (s : Int64) (y : Int32) : ∃ v, v < 64 ∧ M_X5_parted s &&& y = nI v := b_s64 (fun j h6 h7 => by rw [b_and, st_parted s h7, decide_eq_false (by omega), Bool.false_and, Bool.false_and])
theorem ev_E (s : Int64) : (endv s).toInt = ev s := by
  obtain ⟨v, hv, e⟩ := par64 s 42
  obtain ⟨w, hw, e'⟩ := par64 s 21
  unfold endv ev
  rw [e, e', bcN hv, bcN hw, pk_sub_toInt (by have := pc_le6' (nI v); omega) (by have := pc_le6' (nI w); omega)]
theorem ev_one {R : Nat} (hR : R ≤ 6) {kinds strengths : Nat → Int32} {s s' : Int64} {c c' : Int32} (h : hx R kinds strengths s c s' c') : ev s - 1 ≤ ev s' ∧ ev s' ≤ ev s + 1 := by
  rcases h.2.2.2.2.2.2 with ⟨h1, -⟩ | ⟨w, w1, -, -, -, w5, -, -⟩
  · unfold ev; rw [h1]; omega
  · have f : ∀ y : Int32, pc (M_X5_parted s &&& y) ≤ pc (M_X5_parted s' &&& y) ∧ pc (M_X5_parted s' &&& y) ≤ pc (M_X5_parted s &&& y) + 1 := fun y => by
      refine ⟨pc_mono (fun j hj hb => ?_), pc_mono1 (i := w) (by omega) (fun j hj hjw hb => ?_)⟩
      · rw [b_and, Bool.and_eq_true] at hb ⊢
        refine ⟨?_, hb.2⟩
        rw [w5, b_or, hb.1]; rfl
      · rw [b_and, Bool.and_eq_true] at hb ⊢
        refine ⟨?_, hb.2⟩
        have := hb.1
        rw [w5, b_or, b_sb (by omega) (by omega), decide_eq_false hjw, Bool.or_false] at this
        exact this
    have := f 42
    have := f 21
    unfold ev
    omega
section
variable {R A D : Nat} {kinds strengths moved needs forbids : Nat → Int32} {Y : x_Y} {lf : Int32} {la : Int32} {up : Int64} {lo : Int64} {rsz : Nat → Int32} {rpl : Nat → Nat → Int32} {st : Nat → Int64} {ks : Nat → Nat → Int64} {kz : Nat → Int32} {fc : Nat → Int32} {rch : Int32} {tr : Nat → Int32}
variable {m : Nat → Int32}
theorem mn_T {a b : Int32} : (M_J9_min_7cf53 a b).toInt ≤ a.toInt ∧ ∀ lo : Int, lo ≤ a.toInt → lo ≤ b.toInt → lo ≤ (M_J9_min_7cf53 a b).toInt := by
  unfold M_J9_min_7cf53
  by_cases h : b < a
  · rw [if_pos h]
    rw [Int32.lt_iff_toInt_lt] at h
    exact ⟨by omega, fun _ _ h => h⟩
  · rw [if_neg h]; exact ⟨Int.le_refl _, fun _ h _ => h⟩
theorem mx_T {a b : Int32} : a.toInt ≤ (M_J9_max_7cf53 a b).toInt ∧ ∀ hi : Int, a.toInt ≤ hi → b.toInt ≤ hi → (M_J9_max_7cf53 a b).toInt ≤ hi := by
  unfold M_J9_max_7cf53
  by_cases h : a < b
  · rw [if_pos h]
    rw [Int32.lt_iff_toInt_lt] at h
    exact ⟨by omega, fun _ _ h => h⟩
  · rw [if_neg h]; exact ⟨Int.le_refl _, fun _ h _ => h⟩
theorem b63_T (hRS : pu_RS R A kinds strengths moved needs forbids m) {s : Int64} {kr : Int32 → Int64 → Int32 → Option (Int32 × Int32)} {x3 x4 : Int32} {lo hi : Int}
    (hkr : ∀ r i, i < R → fastB s i = true → ∃ v r', kr r (hS R kinds strengths moved s i 1) (x3 - 1) = some (v, r') ∧ (x4 = 0 → lo ≤ v.toInt) ∧ (¬ x4 = 0 → v.toInt ≤ hi)) :
    ∀ (d n k : Nat) (v r : Int32), R ≤ k + d → d < n → k < 100 → lo ≤ v.toInt → v.toInt ≤ hi → ∃ v' r', M_X3_played_b63 (nI R) kinds strengths moved kr n r s x3 x4 v (nI k) = some (v', r') ∧ lo ≤ v'.toInt ∧ v'.toInt ≤ hi := by
  have hR := hRS.1
  intro d
  induction d with
  | zero =>
    intro n k v r h1 h2 h3 h4 h5
    obtain ⟨n, rfl⟩ : ∃ z, n = z + 1 := ⟨n - 1, by omega⟩
    exact ⟨v, r, by rw [M_X3_played_b63, if_pos (pu_le (by omega) (by omega) (by omega))], h4, h5⟩
  | succ d ih =>
    intro n k v r h1 h2 h3 h4 h5
    obtain ⟨n, rfl⟩ : ∃ z, n = z + 1 := ⟨n - 1, by omega⟩
    by_cases q : R ≤ k
    · exact ⟨v, r, by rw [M_X3_played_b63, if_pos (pu_le (by omega) (by omega) q)], h4, h5⟩
    · have e2 : nI k + (2 : Int32) = nI (k + 2) := nI_add k 2
      rw [M_X3_played_b63, if_neg (pu_nle (by omega) (by omega) (by omega)), st_isFast s (by omega)]
      unfold M_X3_played_b120 M_X3_played_b122
      simp only [e2]
      cases hb : (bl s (24 + k) || bl s (30 + k))
      · rw [if_neg (show ¬ (if false = true then (0 : Int32) else 1) = 0 by decide)]
        have hf : fastB s k = true := by unfold fastB; rw [hb]; rfl
        obtain ⟨f1, f2⟩ := fast_T hf
        rw [show (1 : Int32) = nI 1 from rfl, (hx_H hRS (show k < R by omega) f1 f2 (v := 1) (by omega) (by omega)).1, Option.bind_some]
        obtain ⟨v1, r1, c1, c2, c3⟩ := hkr (hC R kinds strengths moved s k 1) k (by omega) hf
        rw [show x3 - nI 1 = x3 - 1 from rfl, c1, Option.bind_some]
        by_cases w : x4 = 0
        · rw [if_pos w]
          exact ih n (k + 2) _ _ (by omega) (by omega) (by omega) (mn_T.2 lo h4 (c2 w)) (Int.le_trans mn_T.1 h5)
        · rw [if_neg w]
          exact ih n (k + 2) _ _ (by omega) (by omega) (by omega) (Int.le_trans h4 mx_T.1) (mx_T.2 hi h5 (c3 w))
      · rw [if_pos (show (if true = true then (0 : Int32) else 1) = 0 by decide)]
        exact ih n (k + 2) v r (by omega) (by omega) (by omega) h4 h5
theorem pl_0 (rn : Nat) (r : Int32) (s : Int64) : M_X3_played (nI R) kinds strengths moved (rn + 1) r s 0 = some (endv s, r) := by
  rw [M_X3_played, if_neg (by decide)]
  rfl
theorem pl_1 (hRS : pu_RS R A kinds strengths moved needs forbids m) (rn : Nat) (r : Int32) (s : Int64) : ∃ v r', M_X3_played (nI R) kinds strengths moved (rn + 2) r s 1 = some (v, r') ∧ ev s - 1 ≤ v.toInt ∧ v.toInt ≤ ev s := by
  rw [M_X3_played, if_pos (by decide), if_neg (by decide)]
  unfold M_X3_played_b39 M_X3_played_b61
  rw [show (1 : Int32) - 1 = 0 from rfl]
  show ∃ v r', (Option.bind (M_X3_played (nI R) kinds strengths moved (rn + 1) r s 0) _) = some (v, r') ∧ _
  rw [pl_0, Option.bind_some, if_pos rfl]
  refine b63_T hRS (x4 := 0) (lo := ev s - 1) (hi := ev s) (fun r i hi hf => ⟨_, _, pl_0 _ _ _, fun _ => ?_, fun h => absurd rfl h⟩) 6 x_fuel 1 (endv s) r (by have := hRS.1; omega) (by unfold x_fuel; omega) (by omega) (by rw [ev_E]; omega) (by rw [ev_E]; omega)
  obtain ⟨f1, f2⟩ := fast_T hf
  rw [ev_E]
  exact (ev_one hRS.1 (hx_H hRS hi f1 f2 (v := 1) (by omega) (by omega)).2.1).1
theorem pl_2 (hRS : pu_RS R A kinds strengths moved needs forbids m) (rn : Nat) (r : Int32) (s : Int64) : ∃ v r', M_X3_played (nI R) kinds strengths moved (rn + 3) r s 2 = some (v, r') ∧ ev s - 1 ≤ v.toInt ∧ v.toInt ≤ ev s + 1 := by
  obtain ⟨v0, r0, c1, c2, c3⟩ := pl_1 hRS rn r s
  rw [M_X3_played, if_pos (by decide), if_pos (by decide)]
  unfold M_X3_played_b39 M_X3_played_b61
  rw [show (2 : Int32) - 1 = 1 from rfl]
  show ∃ v r', (Option.bind (M_X3_played (nI R) kinds strengths moved (rn + 2) r s 1) _) = some (v, r') ∧ _
  rw [c1, Option.bind_some, if_neg (by decide)]
  refine b63_T hRS (x4 := 1) (lo := ev s - 1) (hi := ev s + 1) (fun r i hi hf => ?_) 6 x_fuel 0 v0 r0 (by have := hRS.1; omega) (by unfold x_fuel; omega) (by omega) c2 (by omega)
  obtain ⟨v1, r1, d1, d2, d3⟩ := pl_1 hRS rn r (hS R kinds strengths moved s i 1)
  refine ⟨v1, r1, d1, fun h => absurd h (by decide), fun _ => ?_⟩
  obtain ⟨f1, f2⟩ := fast_T hf
  have := (ev_one hRS.1 (hx_H hRS hi f1 f2 (v := 1) (by omega) (by omega)).2.1).2
  omega
theorem t_duel0 (hD : D ≤ 40) (hR : R ≤ 6) (h0 : 0 < R) : M_LR_duel (TS Y R A kinds strengths moved needs forbids lf la up lo rsz rpl st (nI D) ks kz fc rch tr) (0 : Int32) = some (1, (TS Y R A kinds strengths moved needs forbids lf (endv (st D)) up lo rsz rpl st (nI D) ks kz fc rch tr)) := by
  rw [b_duel]; unfold M_X6_duel M_X2_isEmpty M_X3_outcome
  rw [if_neg (by decide), if_pos (by decide), if_neg (eN 0 (by omega) (by omega)), if_pos rfl, now_C hD, Option.bind_some, show M_J9_min_7cf53 ((2 : Int32) * 0) 6 = 0 from by decide, pl_0]
  rfl
theorem t_duel1 (hD : D ≤ 40) (h0 : 0 < R) (hRS : pu_RS R A kinds strengths moved needs forbids m) : ∃ v r', M_LR_duel (TS Y R A kinds strengths moved needs forbids lf la up lo rsz rpl st (nI D) ks kz fc rch tr) (1 : Int32) = some (1, (TS Y R A kinds strengths moved needs forbids lf v up lo rsz rpl st (nI D) ks kz fc r' tr)) ∧ ev (st D) - 1 ≤ v.toInt ∧ v.toInt ≤ ev (st D) + 1 := by
  obtain ⟨v, r', c1, c2⟩ := pl_2 hRS 7 rch (st D)
  have hR := hRS.1
  refine ⟨v, r', ?_, c2⟩
  rw [b_duel]; unfold M_X6_duel M_X2_isEmpty M_X3_outcome
  rw [if_neg (by decide), if_pos (by decide), if_neg (eN 0 (by omega) (by omega)), if_pos rfl, now_C hD, Option.bind_some, show M_J9_min_7cf53 ((2 : Int32) * 1) 6 = 2 from by decide, c1]
  rfl
end
/-! chances -/
theorem pp_C {b e : Nat} (hb : b < 2 ^ 31) (he : e < 100) : M_X6_power (nI b) (nI e) = some (lN (b ^ e)) :=
  pu_lp (fun n k (x : Int64) => M_X6_power_b5 n (nI b) (nI e) x (nI k) = some (lN (b ^ e)))
    (fun k x => x = lN (b ^ k)) e (by omega)
    (fun n x hx => by rw [M_X6_power_b5, if_pos (pu_le (by omega) (by omega) (Nat.le_refl e)), hx])
    (fun n k x hk hx ih => by
      rw [M_X6_power_b5, if_neg (nI_ge hk (by omega)), nI_1]
      exact ih _ (by rw [hx, nI_l hb, lN_mul, Nat.pow_succ]))
    1 (by rw [Nat.pow_zero]; rfl)
theorem eu_0 {a : Nat} (ha : a < 2 ^ 63) (h : 0 < a) : ¬ lN a = 0 := fun q => by
  have := (pk_lEQ (b := 0) ha (by decide)).mp q
  omega
theorem gcd_s (a b : Nat) : Nat.gcd a b = Nat.gcd b (a % b) := by rw [Nat.gcd_comm a b, Nat.gcd_rec b a, Nat.gcd_comm]
theorem eu_G : ∀ (f a b step n1 : Nat), b < 2 ^ f → step + 2 * f + 1 < 200 → 2 * f + 1 < n1 → a < 2 ^ 40 → b < 2 ^ 40 → 0 < a + b → M_X6_greatestDivisor_b9 n1 (lN a) (lN b) (nI step) = some (lN (Nat.gcd a b)) := by
  have stop : ∀ (a step n1 : Nat), step < 200 → 0 < n1 → M_X6_greatestDivisor_b9 n1 (lN a) (lN 0) (nI step) = some (lN (Nat.gcd a 0)) := by
    intro a step n1 h1 h2
    obtain ⟨n1, rfl⟩ : ∃ m, n1 = m + 1 := ⟨n1 - 1, by omega⟩
    have ez : lg_cmp (lN 0) (0 : Int64) = 0 := (lg_cmp_eq _ _).mpr rfl
    rw [M_X6_greatestDivisor_b9, if_neg (gN 200 h1), if_pos ez, Nat.gcd_zero_right]
  have go : ∀ (a b step n1 : Nat), step < 200 → a < 2 ^ 40 → b < 2 ^ 40 → 0 < b → M_X6_greatestDivisor_b9 (n1 + 1) (lN a) (lN b) (nI step) = M_X6_greatestDivisor_b9 n1 (lN b) (lN (a % b)) (nI (step + 1)) := by
    intro a b step n1 h1 h2 h3 h4
    have en := eu_0 (a := b) (by omega) h4
    have ez : ¬ lg_cmp (lN b) (0 : Int64) = 0 := fun q => en ((lg_cmp_eq _ _).mp q)
    have er : lN a - lN a / lN b * lN b = lN (a % b) := pk_lRem (by omega) h4 (by omega)
    rw [M_X6_greatestDivisor_b9, if_neg (gN 200 h1), if_neg ez, if_pos en, er, nI_1]
  intro f
  induction f with
  | zero =>
    intro a b step n1 h1 h2 h3 h5 h6 h7
    obtain rfl : b = 0 := by omega
    exact stop a step n1 (by omega) (by omega)
  | succ f ih =>
    intro a b step n1 h1 h2 h3 h5 h6 h7
    rcases Nat.eq_zero_or_pos b with hb | hb
    · subst hb
      exact stop a step n1 (by omega) (by omega)
    · obtain ⟨n1, rfl⟩ : ∃ m, n1 = m + 1 + 1 := ⟨n1 - 2, by omega⟩
      rw [go a b step (n1 + 1) (by omega) h5 h6 hb, gcd_s a b]
      have hr := Nat.mod_lt a hb
      rcases Nat.eq_zero_or_pos (a % b) with hz | hz
      · rw [hz]
        exact stop b (step + 1) (n1 + 1) (by omega) (by omega)
      · rw [go b (a % b) (step + 1) n1 (by omega) h6 (by omega) hz, gcd_s b (a % b)]
        have hr2 := Nat.mod_lt b hz
        have hq : 1 ≤ b / (a % b) := Nat.div_pos (by omega) hz
        have hm := Nat.div_add_mod b (a % b)
        have hm2 : a % b ≤ a % b * (b / (a % b)) := Nat.le_mul_of_pos_right _ hq
        have hp : 2 ^ (f + 1) = 2 * 2 ^ f := by rw [Nat.pow_succ]; omega
        exact ih (a % b) (b % (a % b)) (step + 1 + 1) n1 (by omega) (by omega) (by omega) (by omega) (by omega) (by omega)
theorem tp_T {up lo : Int64} {S W : Nat} (hS : S < 2 ^ 40) (hW : W < 2 ^ 22) (h0 : 0 < W) : M_X6_tellPart up lo (lN S) (lN W) = some (1, lN (S / Nat.gcd S W), lN (W / Nat.gcd S W)) := by
  have hg : 0 < Nat.gcd S W := Nat.gcd_pos_of_pos_right _ h0
  have hgl : Nat.gcd S W ≤ W := Nat.gcd_le_right _ h0
  unfold M_X6_tellPart M_X6_greatestDivisor
  rw [show (0 : Int32) = nI 0 from rfl, eu_G 22 S W 0 x_fuel hW (by omega) (by unfold x_fuel; omega) hS (by omega) (by omega), Option.bind_some]
  have en := eu_0 (a := Nat.gcd S W) (by omega) hg
  have e1 : ¬ lg_cmp (lN (Nat.gcd S W)) (0 : Int64) ≤ nI 0 := fun q => by
    have := (pk_lLE (b := 0) (show Nat.gcd S W < 2 ^ 63 by omega) (by decide)).mp ((lg_cmp_le _ _).mp q)
    omega
  rw [if_neg e1, if_pos en, if_pos en, pk_lDiv (by omega) hg (by omega), pk_lDiv (by omega) hg (by omega)]
def asF (w : Int32) (p : Nat) (cnt : Nat → Nat) : Nat → Nat
  | 0 => 0
  | k + 1 => asF w p cnt k + (if (nI k &&& (w ^^^ (-1))) = 0 then p ^ pc (nI k) * (12 - p) ^ (pc w - pc (nI k)) * cnt k else 0)
def popc (k : Nat) : Nat := k % 2 + k / 2 % 2 + k / 4 % 2 + k / 8 % 2 + k / 16 % 2 + k / 32 % 2
def wsN (w p : Nat) : Nat → Nat
  | 0 => 0
  | k + 1 => wsN w p k + (if k &&& w = k then p ^ popc k * (12 - p) ^ (popc w - popc k) else 0)
theorem popc_E : ∀ k, k < 64 → pc (nI k) = popc k := by decide +kernel
theorem sub_E : ∀ w, w < 64 → ∀ k, k < 64 → ((nI k &&& (nI w ^^^ (-1))) = 0 ↔ k &&& w = k) := by decide +kernel
theorem ws_all : ∀ w, w < 64 → ∀ p, p < 13 → wsN w p 64 = 12 ^ popc w := by decide +kernel
theorem msk : ∀ a, a < 5 → pc (nI (2 ^ a - 1)) = a ∧ ∀ j, j < 6 → j < a → bt (nI (2 ^ a - 1)) j = true := by decide +kernel
theorem pc_1 : ∀ k, k < 64 → 0 < k → 1 ≤ pc (nI k) := by decide +kernel
theorem as_le {w p c : Nat} {cnt : Nat → Nat} (hw : w < 64) (hc : ∀ k, k < 64 → cnt k ≤ c) : ∀ k, k ≤ 64 → asF (nI w) p cnt k ≤ c * wsN w p k := by
  intro k
  induction k with
  | zero => intro _; exact Nat.zero_le _
  | succ k ih =>
    intro h
    have i1 := ih (by omega)
    show asF (nI w) p cnt k + (if (nI k &&& (nI w ^^^ (-1))) = 0 then p ^ pc (nI k) * (12 - p) ^ (pc (nI w) - pc (nI k)) * cnt k else 0) ≤ c * (wsN w p k + (if k &&& w = k then p ^ popc k * (12 - p) ^ (popc w - popc k) else 0))
    rw [Nat.mul_add]
    by_cases q : k &&& w = k
    · rw [if_pos q, if_pos ((sub_E w hw k (by omega)).mpr q), popc_E k (by omega), popc_E w hw, Nat.mul_comm c (p ^ popc k * (12 - p) ^ (popc w - popc k))]
      exact Nat.add_le_add i1 (Nat.mul_le_mul_left _ (hc k (by omega)))
    · rw [if_neg q, if_neg (fun z => q ((sub_E w hw k (by omega)).mp z))]
      omega
theorem as_0 {w : Nat} {cnt : Nat → Nat} : ∀ k, k < 64 → asF (nI w) 0 cnt (k + 1) = 12 ^ pc (nI w) * cnt 0 := by
  intro k
  induction k with
  | zero =>
    intro _
    show 0 + (if (nI 0 &&& (nI w ^^^ (-1))) = 0 then 0 ^ pc (nI 0) * (12 - 0) ^ (pc (nI w) - pc (nI 0)) * cnt 0 else 0) = _
    rw [if_pos (b_ext (fun j hj => by rw [b_and, show nI 0 = (0 : Int32) from rfl, b_0, Bool.false_and])), show pc (nI 0) = 0 from pc_0, Nat.zero_add, Nat.pow_zero, Nat.one_mul, Nat.sub_zero, Nat.sub_zero]
  | succ k ih =>
    intro h
    show asF (nI w) 0 cnt (k + 1) + (if (nI (k + 1) &&& (nI w ^^^ (-1))) = 0 then 0 ^ pc (nI (k + 1)) * (12 - 0) ^ (pc (nI w) - pc (nI (k + 1))) * cnt (k + 1) else 0) = _
    rw [ih (by omega)]
    have := pc_1 (k + 1) h (by omega)
    rw [Nat.zero_pow this, Nat.zero_mul, Nat.zero_mul, ite_self, Nat.add_zero]
section
variable {R A D : Nat} {kinds strengths moved needs forbids : Nat → Int32} {Y : x_Y} {lf : Int32} {la : Int32} {up : Int64} {lo : Int64} {rsz : Nat → Int32} {rpl : Nat → Nat → Int32} {st : Nat → Int64} {ks : Nat → Nat → Int64} {kz : Nat → Int32} {fc : Nat → Int32} {rch : Int32} {tr : Nat → Int32}
variable {m : Nat → Int32}
def cntF (R A : Nat) (needs forbids : Nat → Int32) (s : Int64) (acts : Int32) (k : Nat) : Nat := pc (lawF R A needs forbids (tautF (ap s (nI k))) &&& acts)
theorem law_and {st0 : Int64} (hV : pu_V R A kinds strengths moved needs forbids st0) (acts : Int32) : ∃ v, v < 64 ∧ lawF R A needs forbids (tautF st0) &&& acts = nI v := by
  have hA := (V_R hV).2
  exact b_s64 (fun j h6 h7 => by rw [b_and, (V_lawb hV).1 j h7, decide_eq_false (by omega), Bool.false_and, Bool.false_and])
theorem blow_T (hD : D ≤ 40) (hV : pu_V R A kinds strengths moved needs forbids (st D)) {p : Nat} (hp : p ≤ 12) (acts : Int32) {c : Nat} (hc : c ≤ 4) (hcn : ∀ k, k < 64 → cntF R A needs forbids (st D) acts k ≤ c) :
    ∃ u l, M_X6_blow st (nI D) (nI R) (nI A) needs forbids up lo acts (nI p) = some (1, lN u, lN l) ∧ u ≤ c * l ∧ l < 2 ^ 22 ∧ (p = 0 → u = cntF R A needs forbids (st D) acts 0 ∧ l = 1) := by
  have hR := (V_R hV).1
  unfold M_X6_blow
  rw [now_C hD, Option.bind_some]
  obtain ⟨w, hw, eW⟩ := b_s64 (x := M_X2_allRopes (nI R) &&& (M_X5_parted (st D) ^^^ (-1))) (fun j h6 h7 => by unfold M_X2_allRopes; rw [b_and, all_b R (by omega) j h7, decide_eq_false (by omega), Bool.false_and])
  rw [eW, bcN hw]
  have hw6 := pc_le6' (nI w)
  have h12 : 12 ^ pc (nI w) ≤ 12 ^ 6 := Nat.pow_le_pow_right (by decide) hw6
  have h12p : 0 < 12 ^ pc (nI w) := Nat.pow_pos (by decide)
  have hsum : asF (nI w) p (cntF R A needs forbids (st D) acts) 64 ≤ c * 12 ^ pc (nI w) := by
    have := as_le (p := p) hw hcn 64 (Nat.le_refl _)
    rw [ws_all w hw p (by omega), ← popc_E w hw] at this
    exact this
  have hs2 : asF (nI w) p (cntF R A needs forbids (st D) acts) 64 < 2 ^ 40 := by
    have : c * 12 ^ pc (nI w) ≤ 4 * 12 ^ 6 := Nat.mul_le_mul hc h12
    omega
  have hsub : (12 : Int32) - nI p = nI (12 - p) := pk_sub (a := 12) hp
  have key : M_X6_blow_b37 st (nI D) (nI R) (nI A) needs forbids x_fuel up lo acts (nI p) (st D) (nI w) (nI (pc (nI w))) (lN 0) (nI 0) = some (1, lN (asF (nI w) p (cntF R A needs forbids (st D) acts) 64 / Nat.gcd (asF (nI w) p (cntF R A needs forbids (st D) acts) 64) (12 ^ pc (nI w))), lN (12 ^ pc (nI w) / Nat.gcd (asF (nI w) p (cntF R A needs forbids (st D) acts) 64) (12 ^ pc (nI w)))) :=
    pu_lp (fun n k (x : Int64) => M_X6_blow_b37 st (nI D) (nI R) (nI A) needs forbids n up lo acts (nI p) (st D) (nI w) (nI (pc (nI w))) x (nI k) = some (1, lN (asF (nI w) p (cntF R A needs forbids (st D) acts) 64 / Nat.gcd (asF (nI w) p (cntF R A needs forbids (st D) acts) 64) (12 ^ pc (nI w))), lN (12 ^ pc (nI w) / Nat.gcd (asF (nI w) p (cntF R A needs forbids (st D) acts) 64) (12 ^ pc (nI w)))))
      (fun k x => x = lN (asF (nI w) p (cntF R A needs forbids (st D) acts) k)) 64 (by omega)
      (fun n x hx => by
        rw [M_X6_blow_b37, if_pos (show (64 : Int32) ≤ nI 64 by decide), show (12 : Int32) = nI 12 from rfl, pp_C (by omega) (by omega), Option.bind_some, hx, tp_T hs2 (by omega) h12p]
        rfl)
      (fun n k x hk hx ih => by
        rw [M_X6_blow_b37, if_neg (gN 64 hk)]
        unfold M_X6_blow_b109
        rw [nI_1]
        by_cases q : (nI k &&& (nI w ^^^ (-1))) = 0
        · have hkw : pc (nI k) ≤ pc (nI w) := pc_mono (fun j hj hb => by
            have := bx_0.mp q j (by omega)
            rw [b_and, b_not _ (by omega), hb, Bool.true_and] at this
            cases hh : bt (nI w) j
            · rw [hh] at this; exact absurd this (by decide)
            · rfl)
          obtain ⟨v, hv, ev⟩ := law_and (V_ap hV (nI k)) acts
          have ec : M_J6_bitCount_0f7a4 (lawF R A needs forbids (tautF (ap (st D) (nI k))) &&& acts) = nI (cntF R A needs forbids (st D) acts k) := by unfold cntF; rw [ev]; exact bcN hv
          have hcl := hcn k hk
          rw [if_pos q, bcN hk, pp_C (by omega) (by have := pc_le6' (nI k); omega), Option.bind_some, hsub, pk_sub hkw, pp_C (by omega) (by omega), Option.bind_some, st_apE, Option.bind_some, V_law (V_ap hV _), Option.bind_some, ec, nI_l (by omega), lN_mul, lN_mul, hx, lN_add]
          refine ih _ ?_
          show _ = lN (asF (nI w) p (cntF R A needs forbids (st D) acts) k + (if (nI k &&& (nI w ^^^ (-1))) = 0 then p ^ pc (nI k) * (12 - p) ^ (pc (nI w) - pc (nI k)) * cntF R A needs forbids (st D) acts k else 0))
          rw [if_pos q]
        · rw [if_neg q]
          refine ih _ ?_
          show _ = lN (asF (nI w) p (cntF R A needs forbids (st D) acts) k + (if (nI k &&& (nI w ^^^ (-1))) = 0 then p ^ pc (nI k) * (12 - p) ^ (pc (nI w) - pc (nI k)) * cntF R A needs forbids (st D) acts k else 0))
          rw [if_neg q, hx, Nat.add_zero])
      (lN 0) rfl
  have hgd : Nat.gcd (asF (nI w) p (cntF R A needs forbids (st D) acts) 64) (12 ^ pc (nI w)) ∣ 12 ^ pc (nI w) := Nat.gcd_dvd_right _ _
  refine ⟨_, _, key, ?_, ?_, fun hp0 => ?_⟩
  · rw [← Nat.mul_div_assoc _ hgd]
    exact Nat.div_le_div_right hsum
  · exact Nat.lt_of_le_of_lt (Nat.div_le_self _ _) (by omega)
  · subst hp0
    have e : asF (nI w) 0 (cntF R A needs forbids (st D) acts) 64 = 12 ^ pc (nI w) * cntF R A needs forbids (st D) acts 0 := as_0 63 (by omega)
    rw [e, Nat.gcd_eq_right (Nat.dvd_mul_right _ _)]
    exact ⟨Nat.mul_div_cancel_left _ h12p, Nat.div_self h12p⟩
theorem taut_ap0 (s : Int64) : tautF (ap s (nI 0)) = tautF s := by
  rw [ap_taut]
  exact b_ext (fun j hj => by rw [b_and, b_not _ hj, show nI 0 = (0 : Int32) from rfl, b_0, Bool.not_false, Bool.and_true])
theorem t_odds (hD : D ≤ 40) (hV : pu_V R A kinds strengths moved needs forbids (st D)) {a p : Nat} (ha : a < A) (hp : p ≤ 12) :
    ∃ u l, M_LR_odds (TS Y R A kinds strengths moved needs forbids lf la up lo rsz rpl st (nI D) ks kz fc rch tr) (nI a) (nI p) = some (1, (TS Y R A kinds strengths moved needs forbids lf la (lN u) (lN l) rsz rpl st (nI D) ks kz fc rch tr)) ∧ u ≤ l ∧ l < 2 ^ 22 ∧ (p = 0 → u = (if bt (lawF R A needs forbids (tautF (st D))) a then 1 else 0) ∧ l = 1) := by
  have hA := (V_R hV).2
  have hpc : ∀ x : Int32, pc (x &&& ((1 : Int32) <<< (nI a &&& 31))) = if bt x a then 1 else 0 := fun x => by
    unfold pc
    simp only [b_and]
    rw [b_sb (i := 0) (n := a) (by omega) (by omega), b_sb (i := 1) (n := a) (by omega) (by omega), b_sb (i := 2) (n := a) (by omega) (by omega), b_sb (i := 3) (n := a) (by omega) (by omega), b_sb (i := 4) (n := a) (by omega) (by omega), b_sb (i := 5) (n := a) (by omega) (by omega)]
    have : a = 0 ∨ a = 1 ∨ a = 2 ∨ a = 3 := by omega
    rcases this with e | e | e | e <;> subst e
    · cases bt x 0 <;> simp
    · cases bt x 1 <;> simp
    · cases bt x 2 <;> simp
    · cases bt x 3 <;> simp
  obtain ⟨u, l, k1, k2, k3, k4⟩ := blow_T (up := up) (lo := lo) hD hV hp ((1 : Int32) <<< (nI a &&& 31)) (c := 1) (by omega) (fun k hk => by unfold cntF; rw [hpc]; split <;> omega)
  refine ⟨u, l, ?_, by omega, k3, fun h0 => ⟨?_, (k4 h0).2⟩⟩
  · rw [b_odds]; unfold M_X6_odds M_X2_isAct
    rw [if_neg (nI_pos (by omega)), if_neg (nI_ge ha (by omega)), if_neg (gN 4 (by omega)), if_neg (by decide), if_neg (nI_pos (by omega)), if_pos (aL 12 hp), k1]
    rfl
  · rw [(k4 h0).1]; unfold cntF; rw [hpc, taut_ap0]
theorem t_mid (hD : D ≤ 40) (h0 : 0 < R) (hV : pu_V R A kinds strengths moved needs forbids (st D)) {p : Nat} (hp : p ≤ 12) :
    ∃ u l, M_LR_mid (TS Y R A kinds strengths moved needs forbids lf la up lo rsz rpl st (nI D) ks kz fc rch tr) (nI p) = some (1, (TS Y R A kinds strengths moved needs forbids lf la (lN u) (lN l) rsz rpl st (nI D) ks kz fc rch tr)) ∧ u ≤ A * l ∧ l < 2 ^ 22 ∧ (p = 0 → u = pc (lawF R A needs forbids (tautF (st D))) ∧ l = 1) := by
  have hR := (V_R hV).1
  have hA := (V_R hV).2
  have e15 : ∀ s : Int64, pu_V R A kinds strengths moved needs forbids s → lawF R A needs forbids (tautF s) &&& 15 = lawF R A needs forbids (tautF s) := fun s hs => b_ext (fun j hj => by
    rw [b_and, b_15 j hj, (V_lawb hs).1 j hj]
    by_cases q : j < A
    · rw [decide_eq_true (show j < 4 by omega), Bool.and_true]
    · rw [decide_eq_false q, Bool.false_and, Bool.false_and])
  have hle : ∀ s : Int64, pu_V R A kinds strengths moved needs forbids s → pc (lawF R A needs forbids (tautF s)) ≤ A := fun s hs => by
    obtain ⟨m1, m2⟩ := msk A (by omega)
    refine Nat.le_trans (pc_mono (y := nI (2 ^ A - 1)) (fun j hj hb => ?_)) (Nat.le_of_eq m1)
    rw [(V_lawb hs).1 j (by omega), Bool.and_eq_true] at hb
    exact m2 j hj (of_decide_eq_true hb.1)
  obtain ⟨u, l, k1, k2, k3, k4⟩ := blow_T (up := up) (lo := lo) hD hV hp 15 (c := A) hA (fun k hk => by unfold cntF; rw [e15 _ (V_ap hV _)]; exact hle _ (V_ap hV _))
  refine ⟨u, l, ?_, k2, k3, fun hp0 => ⟨?_, (k4 hp0).2⟩⟩
  · rw [b_mid]; unfold M_X6_mid M_X2_isEmpty
    rw [if_neg (nI_pos (by omega)), if_pos (aL 12 hp), if_neg (eN 0 (by omega) (by omega)), if_pos rfl, k1]
    rfl
  · rw [(k4 hp0).1]; unfold cntF; rw [e15 _ (V_ap hV _), taut_ap0]
/-! the fewest deeds -/
theorem t_least (hD : D ≤ 40) (hV : pu_V R A kinds strengths moved needs forbids (st D)) {a : Nat} (ha : a < A) :
    (∃ L code q rch' tr', L ≤ 4 ∧ M_LR_least (TS Y R A kinds strengths moved needs forbids lf la up lo rsz rpl st (nI D) ks kz fc rch tr) (nI a) (5 : Int32) = some (nI L, (TS Y R A kinds strengths moved needs forbids lf la up lo (upd rsz 5 (nI L)) (upd2 rpl 5 q) st (nI D) ks kz fc rch' tr')) ∧ lsAt R kinds strengths moved needs forbids a (st D) L code ∧ ∀ j, j < L → q j = nI (dg L code j)) ∨
    (∃ rch' tr', M_LR_least (TS Y R A kinds strengths moved needs forbids lf la up lo rsz rpl st (nI D) ks kz fc rch tr) (nI a) (5 : Int32) = some (-9, (TS Y R A kinds strengths moved needs forbids lf la up lo rsz rpl st (nI D) ks kz fc rch' tr')) ∧ ∀ L' c', L' < 5 → c' < 12 ^ L' → lsOk R kinds strengths moved needs forbids a L' (st D) c' = false) := by
  have hA := (V_R hV).2
  have e0 : ∀ X, X = M_X6_least st (nI D) (nI R) (nI A) kinds strengths moved needs forbids rsz rpl rch tr (nI a) (5 : Int32) → X = (M_X3_fewest (nI R) (nI A) kinds strengths moved needs forbids rch tr (nI a) (st D)).bind fun r10 => if r10.1 = (-9 : Int32) then (some ((-9 : Int32), rsz, rpl, r10.2.1, r10.2.2)) else ((M_X4_make 6 40 40 0 rsz rpl (nI 5) r10.1).bind fun r13 => M_X6_least_b65 st (nI D) (nI R) (nI A) kinds strengths moved needs forbids x_fuel r13.1 r13.2 r10.2.1 r10.2.2 (nI 5) r10.1 (nI 0)) := fun X hX => by
    rw [hX]; unfold M_X6_least M_X2_isAct
    rw [if_neg (nI_pos (by omega)), if_neg (nI_ge ha (by omega)), if_neg (gN 4 (by omega)), if_neg (by decide)]
    show (if M_X4_isNumber 6 40 (nI 5) = 0 then _ else _ : Option _) = _
    rw [pu_isN (by decide) (by decide), if_neg (by decide), now_C hD, Option.bind_some]
    rfl
  obtain ⟨v, rch', q', f1, f2⟩ := fw_C ha rch tr hV
  rcases f2 with ⟨L, code, hL, rfl, f3, f4⟩ | ⟨rfl, f3⟩
  · obtain ⟨q0, m1, m2⟩ := pu_make (N := 6) (M := 40) (sizes := rsz) (places := rpl) (r := 5) (by decide) (by decide) (z := L) (by omega) (by decide) (most := 40) (blank := 0) rfl
    have key : ∃ q, M_X6_least_b65 st (nI D) (nI R) (nI A) kinds strengths moved needs forbids x_fuel (upd rsz 5 (nI L)) (upd2 rpl 5 q0) rch' q' (nI 5) (nI L) (nI 0) = some (nI L, upd rsz 5 (nI L), upd2 rpl 5 q, rch', q') ∧ ∀ j, j < L → q j = q' j :=
      pu_lp (fun n k (x : Nat → Nat → Int32) => ∃ q, M_X6_least_b65 st (nI D) (nI R) (nI A) kinds strengths moved needs forbids n (upd rsz 5 (nI L)) x rch' q' (nI 5) (nI L) (nI k) = some (nI L, upd rsz 5 (nI L), upd2 rpl 5 q, rch', q') ∧ ∀ j, j < L → q j = q' j)
        (fun k x => ∃ q, x = upd2 rpl 5 q ∧ ∀ j, j < k → q j = q' j) L (by omega)
        (fun n x ⟨q, e, h⟩ => ⟨q, by rw [M_X6_least_b65, if_pos (pu_le (by omega) (by omega) (Nat.le_refl L)), e], h⟩)
        (fun n k x hk ⟨q, e, h⟩ ih => by
          rw [M_X6_least_b65, if_neg (nI_ge hk (by omega)), if_neg (gN 4 (by omega)), if_pos (pu_inb (by omega) (by decide)), nI_clamp (by omega), e, pu_set (by decide) (by decide) (show L ≤ 40 by omega) (by decide) pu_us hk, Option.bind_some, pu_22, pu_2s, nI_1]
          refine ih _ ⟨_, rfl, fun j hj => ?_⟩
          by_cases w : j = k
          · subst w; rw [pu_us]
          · rw [pu_un w]; exact h j (by omega))
        (upd2 rpl 5 q0) ⟨q0, rfl, fun j h => absurd h (by omega)⟩
    obtain ⟨q, k1, k2⟩ := key
    refine .inl ⟨L, code, q, rch', q', hL, ?_, f3, fun j hj => by rw [k2 j hj, f4 j hj]⟩
    rw [b_least, e0 _ rfl, f1, Option.bind_some]
    show ((if nI L = -9 then _ else _ : Option _)).bind _ = _
    rw [if_neg (pu_nI9 (by omega)), m1, Option.bind_some]
    show (M_X6_least_b65 st (nI D) (nI R) (nI A) kinds strengths moved needs forbids x_fuel (upd rsz 5 (nI L)) (upd2 rpl 5 q0) rch' q' (nI 5) (nI L) (nI 0)).bind _ = _
    rw [k1]
    rfl
  · refine .inr ⟨rch', q', ?_, f3⟩
    rw [b_least, e0 _ rfl, f1]
    rfl
end
