/-! PURE PART: parts, rows, fall, idle, share on TS -/
def cfB (R : Nat) (s : Int64) (x : Int32) : Bool := (List.range 32).all (fun j => !bt x j || (decide (j < R) && decide (j < 6) && !bl s (30 + j)))
theorem cfB_iff {R : Nat} {s : Int64} {x : Int32} : cfB R s x = true ↔ ∀ j, j < 32 → bt x j = true → j < R ∧ j < 6 ∧ bl s (30 + j) = false := by
  unfold cfB
  rw [List.all_eq_true]
  constructor
  · intro h j hj hb
    have := h j (List.mem_range.mpr hj)
    rw [hb] at this
    simp only [Bool.not_true, Bool.false_or, Bool.and_eq_true, decide_eq_true_eq, Bool.not_eq_true'] at this
    exact ⟨this.1.1, this.1.2, this.2⟩
  · intro h j hj
    cases hb : bt x j
    · rfl
    · obtain ⟨h1, h2, h3⟩ := h j (List.mem_range.mp hj) hb
      rw [decide_eq_true h1, decide_eq_true h2, h3]; rfl
abbrev lz (R A : Nat) (needs forbids : Nat → Int32) (s : Int64) (x : Int32) : Prop := lawF R A needs forbids (tautF (ap s x)) = 0
def smG (g : Nat → Nat) : Nat → Nat
  | 0 => 0
  | k + 1 => smG g k + g k
theorem smG_le {g f : Nat → Nat} : ∀ k, (∀ i, i < k → g i ≤ f i) → smG g k ≤ smG f k := by
  intro k
  induction k with
  | zero => intro _; exact Nat.le_refl _
  | succ k ih =>
    intro h
    have := ih (fun i hi => h i (by omega))
    have := h k (by omega)
    show smG g k + g k ≤ smG f k + f k
    omega
theorem smG_eq {g f : Nat → Nat} {k : Nat} (h : ∀ i, i < k → g i = f i) : smG g k = smG f k := Nat.le_antisymm (smG_le k (fun i hi => Nat.le_of_eq (h i hi))) (smG_le k (fun i hi => Nat.le_of_eq (h i hi).symm))
theorem smG_up {g f : Nat → Nat} {i : Nat} : ∀ k, i < k → (∀ j, j < k → j ≠ i → f j = g j) → smG f k + g i = smG g k + f i := by
  intro k
  induction k with
  | zero => intro h; exact absurd h (by omega)
  | succ k ih =>
    intro h hf
    show smG f k + f k + g i = smG g k + g k + f i
    by_cases e : i = k
    · subst e
      have := smG_eq (g := f) (f := g) (k := i) (fun j hj => hf j (by omega) (by omega))
      omega
    · have := ih (by omega) (fun j hj hji => hf j (by omega) hji)
      have := hf k (by omega) (fun q => e q.symm)
      omega
def fr (R : Nat) (kinds strengths : Nat → Int32) (s : Int64) (i : Nat) : Nat := if fastB s i then hd R kinds strengths i - sv s i else 0
theorem i3 {a b c : Nat} (ha : a < 100) (hb : b < 100) (hc : c < 100) : (nI a - nI b - nI c).toInt = (a : Int) - b - c := by
  rw [Int32.toInt_sub, pk_sub_toInt (by omega) (by omega), nI_toInt (by omega)]
  exact Int.bmod_eq_of_le (by omega) (by omega)
theorem pc_le6' (x : Int32) : pc x ≤ 6 := by
  have := Bool.toNat_le (bt x 0); have := Bool.toNat_le (bt x 1); have := Bool.toNat_le (bt x 2); have := Bool.toNat_le (bt x 3); have := Bool.toNat_le (bt x 4); have := Bool.toNat_le (bt x 5)
  unfold pc; omega
section
variable {R A D : Nat} {kinds strengths moved needs forbids : Nat → Int32} {Y : x_Y} {lf : Int32} {la : Int32} {up : Int64} {lo : Int64} {rsz : Nat → Int32} {rpl : Nat → Nat → Int32} {st : Nat → Int64} {ks : Nat → Nat → Int64} {kz : Nat → Int32} {fc : Nat → Int32} {rch : Int32} {tr : Nat → Int32}
variable {m : Nat → Int32}
theorem t_parts (hD : D ≤ 40) (hRS : pu_RS R A kinds strengths moved needs forbids m) {i : Nat} (hi : i < R) (hf : fastB (st D) i = true) :
    ∃ r la' rch', M_LR_parts (TS Y R A kinds strengths moved needs forbids lf la up lo rsz rpl st (nI D) ks kz fc rch tr) (nI i) = some (r, (TS Y R A kinds strengths moved needs forbids lf la' up lo rsz rpl st (nI D) ks kz fc rch' tr)) ∧
      ((r = -9 ∧ ∀ n, 1 ≤ n → n ≤ 20 → wh R kinds strengths moved (st D) i n = -9) ∨
       (∃ p, 1 ≤ p ∧ p ≤ 20 ∧ r = nI p ∧ la' = wh R kinds strengths moved (st D) i p ∧ ¬ wh R kinds strengths moved (st D) i p = -9 ∧ ∀ n, 1 ≤ n → n < p → wh R kinds strengths moved (st D) i n = -9)) := by
  obtain ⟨f1, f2⟩ := fast_T hf
  have key : ∃ r la' rch', M_X6_parts_b23 st (nI D) (nI R) kinds strengths moved x_fuel la rch (nI i) (st D) (nI 1) = some (r, la', rch') ∧
      ((r = -9 ∧ ∀ n, 1 ≤ n → n ≤ 20 → wh R kinds strengths moved (st D) i n = -9) ∨
       (∃ p, 1 ≤ p ∧ p ≤ 20 ∧ r = nI p ∧ la' = wh R kinds strengths moved (st D) i p ∧ ¬ wh R kinds strengths moved (st D) i p = -9 ∧ ∀ n, 1 ≤ n → n < p → wh R kinds strengths moved (st D) i n = -9)) :=
    pu_loop (fun n k (x : Int32) => ∃ r la' rch', M_X6_parts_b23 st (nI D) (nI R) kinds strengths moved n la x (nI i) (st D) (nI k) = some (r, la', rch') ∧
      ((r = -9 ∧ ∀ n, 1 ≤ n → n ≤ 20 → wh R kinds strengths moved (st D) i n = -9) ∨
       (∃ p, 1 ≤ p ∧ p ≤ 20 ∧ r = nI p ∧ la' = wh R kinds strengths moved (st D) i p ∧ ¬ wh R kinds strengths moved (st D) i p = -9 ∧ ∀ n, 1 ≤ n → n < p → wh R kinds strengths moved (st D) i n = -9)))
      (fun k _ => 1 ≤ k ∧ ∀ n, 1 ≤ n → n < k → wh R kinds strengths moved (st D) i n = -9) 21
      (fun n x h => ⟨-9, la, x, by rw [M_X6_parts_b23, if_pos (rL 20 (by omega) (by omega))], .inl ⟨rfl, fun n h1 h2 => h.2 n h1 (by omega)⟩⟩)
      (fun n k x hk h ih => by
        have e : M_X6_parts_b23 st (nI D) (nI R) kinds strengths moved (n + 1) la x (nI i) (st D) (nI k) = if wh R kinds strengths moved (st D) i k = -9 then M_X6_parts_b23 st (nI D) (nI R) kinds strengths moved n la (hC R kinds strengths moved (st D) i k) (nI i) (st D) (nI (k + 1)) else some (nI k, wh R kinds strengths moved (st D) i k, hC R kinds strengths moved (st D) i k) := by
          rw [M_X6_parts_b23, if_neg (rN 20 (by omega)), (hx_H hRS hi f1 f2 (by omega) (by omega)).1, Option.bind_some, nI_1]
          rfl
        rw [e]
        by_cases q : wh R kinds strengths moved (st D) i k = -9
        · rw [if_pos q]
          refine ih _ ⟨by omega, fun n' h1 h2 => ?_⟩
          by_cases e2 : n' = k
          · rw [e2]; exact q
          · exact h.2 n' h1 (by omega)
        · rw [if_neg q]
          exact ⟨_, _, _, rfl, .inr ⟨k, h.1, by omega, rfl, rfl, q, h.2⟩⟩)
      20 x_fuel 1 rch (by omega) (by unfold x_fuel; omega) ⟨by omega, fun n h1 h2 => absurd h2 (by omega)⟩
  obtain ⟨r, la', rch', k1, k2⟩ := key
  refine ⟨r, la', rch', ?_, k2⟩
  rw [b_parts]; unfold M_X6_parts
  rw [rf_T hD hRS.1 hi hf, Option.bind_some, if_pos rfl, now_C hD, Option.bind_some]
  show (M_X6_parts_b23 st (nI D) (nI R) kinds strengths moved x_fuel la rch (nI i) (st D) (nI 1)).bind _ = _
  rw [k1]
  rfl
theorem t_partsN (hD : D ≤ 40) (hR : R ≤ 6) {i : Nat} (hi : i < R) (hf : fastB (st D) i = false) : M_LR_parts (TS Y R A kinds strengths moved needs forbids lf la up lo rsz rpl st (nI D) ks kz fc rch tr) (nI i) = some (-4, (TS Y R A kinds strengths moved needs forbids lf la up lo rsz rpl st (nI D) ks kz fc rch tr)) := by
  rw [b_parts]; unfold M_X6_parts
  rw [rf_F hD hR hi hf, Option.bind_some, if_neg (by decide)]
  rfl
/-! rows -/
theorem t_row {r z0 : Nat} (hr : r < 6) (hz : z0 ≤ 40) : ∃ q, M_LR_row (TS Y R A kinds strengths moved needs forbids lf la up lo rsz rpl st (nI D) ks kz fc rch tr) (nI r) (nI z0) = some (nI z0, (TS Y R A kinds strengths moved needs forbids lf la up lo (upd rsz r (nI z0)) (upd2 rpl r q) st (nI D) ks kz fc rch tr)) ∧ ∀ i, i < z0 → q i = 0 := by
  obtain ⟨q, m1, m2⟩ := pu_make (N := 6) (M := 40) (sizes := rsz) (places := rpl) hr (by decide) (z := z0) hz (by decide) (most := 40) (blank := 0) rfl
  refine ⟨q, ?_, m2⟩
  rw [b_row]; unfold M_X6_row M_X6_made_rows
  rw [pu_isN hr (by decide), if_neg (by decide), if_pos (aL 40 hz), if_pos (nI_pos' (by omega)), m1]
  rfl
theorem rp_C {r z0 i : Nat} (hr : r < 6) (hz : z0 ≤ 40) (h : rsz r = nI z0) (hi : i < z0) : M_X6_refusalOfPlace_rows rsz lf fc (nI r) (nI i) = some (0, lf, fc) := by
  unfold M_X6_refusalOfPlace_rows M_X6_refusalOfMissing_rows
  rw [pu_isN hr (by decide), if_neg (by decide), pu_there1 hr (by decide) (show z0 < 2 ^ 31 by omega) h, Option.bind_some, if_neg (by decide), Option.bind_some, if_pos rfl, pu_place1 hr (by decide) (show z0 < 2 ^ 31 by omega) h hi, Option.bind_some, if_neg (by decide)]
theorem t_layR {r z0 i : Nat} (hr : r < 6) (hz : z0 ≤ 40) (h : rsz r = nI z0) (hi : i < z0) (v : Int32) : M_LR_lay (TS Y R A kinds strengths moved needs forbids lf la up lo rsz rpl st (nI D) ks kz fc rch tr) (nI r) (nI i) v = some (1, (TS Y R A kinds strengths moved needs forbids lf (rpl r i) up lo rsz (upd2 rpl r (upd (rpl r) i v)) st (nI D) ks kz fc rch tr)) := by
  rw [b_lay]; unfold M_X6_lay
  rw [rp_C hr hz h hi, Option.bind_some, if_pos rfl, pu_get hr (by decide) hz (by decide) h hi, Option.bind_some, pu_set hr (by decide) hz (by decide) h hi]
  rfl
theorem t_at {r z0 i : Nat} (hr : r < 6) (hz : z0 ≤ 40) (h : rsz r = nI z0) (hi : i < z0) : M_LR_at (TS Y R A kinds strengths moved needs forbids lf la up lo rsz rpl st (nI D) ks kz fc rch tr) (nI r) (nI i) = some (1, (TS Y R A kinds strengths moved needs forbids lf (rpl r i) up lo rsz rpl st (nI D) ks kz fc rch tr)) := by
  rw [b_at]; unfold M_X6_at
  rw [rp_C hr hz h hi, Option.bind_some, if_pos rfl, pu_get hr (by decide) hz (by decide) h hi]
  rfl
theorem t_passes (hR : R ≤ 6) {i n : Nat} (hi : i < R) (hn : n ≤ 99) : M_LR_passes (TS Y R A kinds strengths moved needs forbids lf la up lo rsz rpl st (nI D) ks kz fc rch tr) (nI i) (nI n) = some (M_X6_passed (kinds i) (nI n)) := by
  rw [b_passes]; unfold M_X6_passes
  rw [rs_isRope hR hi, if_neg (by decide), if_neg (nI_pos (by omega)), if_pos (aL 99 hn), rs_kind hR hi]
  rfl
/-! fall, idle -/
theorem cf_E (hR : R ≤ 6) (s : Int64) (x : Int32) : ((x &&& ((M_X2_allRopes (nI R) &&& (M_X5_parted s ^^^ (-1))) ^^^ (-1))) = 0) ↔ cfB R s x = true := by
  unfold M_X2_allRopes
  rw [bx_0, cfB_iff]
  constructor
  · intro h j hj hb
    have := h j hj
    rw [b_and, b_not _ hj, b_and, all_b R (by omega) j hj, b_not _ hj, st_parted s hj, hb, Bool.true_and] at this
    by_cases q : j < R
    · refine ⟨q, by omega, ?_⟩
      rw [decide_eq_true q, decide_eq_true (show j < 6 by omega)] at this
      cases hz : bl s (30 + j)
      · rfl
      · rw [hz] at this; exact absurd this (by decide)
    · rw [decide_eq_false q, Bool.false_and] at this; exact absurd this (by decide)
  · intro h j hj
    rw [b_and, b_not _ hj, b_and, all_b R (by omega) j hj, b_not _ hj, st_parted s hj]
    cases hb : bt x j
    · rfl
    · obtain ⟨h1, h2, h3⟩ := h j hj hb
      rw [h3, decide_eq_true h1]
      simp
theorem cf_T (hD : D ≤ 40) (hR : R ≤ 6) (x : Int32) : M_X6_canFall st (nI D) (nI R) x = some (if cfB R (st D) x = true then 1 else 0) := by
  unfold M_X6_canFall
  rw [now_C hD, Option.bind_some]
  by_cases q : cfB R (st D) x = true
  · rw [if_pos q, if_pos ((cf_E hR (st D) x).mpr q)]
  · rw [if_neg q, if_neg (fun w => q ((cf_E hR (st D) x).mp w))]
theorem bcN {k : Nat} (hk : k < 64) : M_J6_bitCount_0f7a4 (nI k) = nI (pc (nI k)) := (bc_eq k hk).2
theorem fb_C (hD : D ≤ 40) (hV : pu_V R A kinds strengths moved needs forbids (st D)) (k18 : Int32 → Int32 → Int32 → Option (Int32 × Int32)) (x : Int32) (k : Nat) :
    M_X6_fall_b46 st (nI D) (nI R) (nI A) needs forbids k18 la x (nI k) 1 = if cfB R (st D) (nI k) = true ∧ lz R A needs forbids (st D) (nI k) then k18 la (nI k) (nI (k + 1)) else k18 la x (nI (k + 1)) := by
  unfold M_X6_fall_b46 M_X6_fall_b82
  rw [if_neg (by decide), cf_T hD (V_R hV).1, Option.bind_some]
  by_cases q : cfB R (st D) (nI k) = true
  · rw [if_pos q, if_neg (by decide), now_C hD, Option.bind_some, st_apE, Option.bind_some, V_law (V_ap hV _), Option.bind_some, nI_1]
    by_cases w : lz R A needs forbids (st D) (nI k)
    · rw [if_pos w, if_pos ⟨q, w⟩]
    · rw [if_neg w, if_neg (show ¬ (cfB R (st D) (nI k) = true ∧ lz R A needs forbids (st D) (nI k)) from fun z => w z.2)]
  · rw [if_neg q, if_pos rfl, if_neg (show ¬ (cfB R (st D) (nI k) = true ∧ lz R A needs forbids (st D) (nI k)) from fun z => q z.1), nI_1]
theorem t_fall (hD : D ≤ 40) (h0 : 0 < R) (hV : pu_V R A kinds strengths moved needs forbids (st D)) :
    ∃ v la', M_LR_fall (TS Y R A kinds strengths moved needs forbids lf la up lo rsz rpl st (nI D) ks kz fc rch tr) = some (v, (TS Y R A kinds strengths moved needs forbids lf la' up lo rsz rpl st (nI D) ks kz fc rch tr)) ∧
      ((v = -9 ∧ la' = la ∧ ∀ k, k < 64 → cfB R (st D) (nI k) = true → ¬ lz R A needs forbids (st D) (nI k)) ∨
       (∃ b, b < 64 ∧ v = nI (pc (nI b)) ∧ la' = nI b ∧ cfB R (st D) (nI b) = true ∧ lz R A needs forbids (st D) (nI b) ∧ ∀ k, k < 64 → cfB R (st D) (nI k) = true → lz R A needs forbids (st D) (nI k) → pc (nI b) ≤ pc (nI k))) := by
  have hR := (V_R hV).1
  have key : ∃ v la', M_X6_fall_b18 st (nI D) (nI R) (nI A) needs forbids x_fuel la (-9) (nI 0) = some (v, la') ∧
      ((v = -9 ∧ la' = la ∧ ∀ k, k < 64 → cfB R (st D) (nI k) = true → ¬ lz R A needs forbids (st D) (nI k)) ∨
       (∃ b, b < 64 ∧ v = nI (pc (nI b)) ∧ la' = nI b ∧ cfB R (st D) (nI b) = true ∧ lz R A needs forbids (st D) (nI b) ∧ ∀ k, k < 64 → cfB R (st D) (nI k) = true → lz R A needs forbids (st D) (nI k) → pc (nI b) ≤ pc (nI k))) :=
    pu_lp (fun n k (x : Int32) => ∃ v la', M_X6_fall_b18 st (nI D) (nI R) (nI A) needs forbids n la x (nI k) = some (v, la') ∧
      ((v = -9 ∧ la' = la ∧ ∀ k, k < 64 → cfB R (st D) (nI k) = true → ¬ lz R A needs forbids (st D) (nI k)) ∨
       (∃ b, b < 64 ∧ v = nI (pc (nI b)) ∧ la' = nI b ∧ cfB R (st D) (nI b) = true ∧ lz R A needs forbids (st D) (nI b) ∧ ∀ k, k < 64 → cfB R (st D) (nI k) = true → lz R A needs forbids (st D) (nI k) → pc (nI b) ≤ pc (nI k))))
      (fun k x => (x = -9 ∧ ∀ k', k' < k → cfB R (st D) (nI k') = true → ¬ lz R A needs forbids (st D) (nI k')) ∨
        (∃ b, b < 64 ∧ x = nI b ∧ cfB R (st D) (nI b) = true ∧ lz R A needs forbids (st D) (nI b) ∧ ∀ k', k' < k → cfB R (st D) (nI k') = true → lz R A needs forbids (st D) (nI k') → pc (nI b) ≤ pc (nI k'))) 64 (by omega)
      (fun n x h => by
        rcases h with ⟨rfl, h⟩ | ⟨b, hb, rfl, c1, c2, c3⟩
        · exact ⟨-9, la, by rw [M_X6_fall_b18, if_pos (gL 64 (by omega) (by omega)), if_pos rfl], .inl ⟨rfl, rfl, h⟩⟩
        · exact ⟨_, _, by rw [M_X6_fall_b18, if_pos (gL 64 (by omega) (by omega)), if_neg (pu_nI9 (by omega)), bcN hb]; rfl, .inr ⟨b, hb, rfl, rfl, c1, c2, c3⟩⟩)
      (fun n k x hk h ih => by
        have up : ∀ (b : Nat) (P : Nat → Prop), (∀ k', k' < k → P k') → P k → ∀ k', k' < k + 1 → P k' := fun b P h1 h2 k' hk' => by
          by_cases e : k' = k
          · rw [e]; exact h2
          · exact h1 k' (by omega)
        rcases h with ⟨rfl, h⟩ | ⟨b, hb, rfl, c1, c2, c3⟩
        · rw [M_X6_fall_b18, if_neg (gN 64 hk), if_pos rfl]
          unfold M_X6_fall_b41
          rw [fb_C hD hV]
          by_cases q : cfB R (st D) (nI k) = true ∧ lz R A needs forbids (st D) (nI k)
          · rw [if_pos q]
            exact ih _ (.inr ⟨k, hk, rfl, q.1, q.2, up 0 _ (fun k' hk' z1 z2 => absurd z2 (h k' hk' z1)) (fun _ _ => Nat.le_refl _)⟩)
          · rw [if_neg q]
            exact ih _ (.inl ⟨rfl, up 0 _ h (fun z1 z2 => q ⟨z1, z2⟩)⟩)
        · rw [M_X6_fall_b18, if_neg (gN 64 hk), if_neg (pu_nI9 (by omega)), bcN hb, bcN hk]
          have p1 := pc_le6' (nI b)
          have p2 := pc_le6' (nI k)
          by_cases w : pc (nI b) ≤ pc (nI k)
          · rw [if_pos (pu_le (by omega) (by omega) w)]
            unfold M_X6_fall_b46 M_X6_fall_b82
            rw [if_pos rfl, nI_1]
            exact ih _ (.inr ⟨b, hb, rfl, c1, c2, up 0 _ c3 (fun _ _ => w)⟩)
          · rw [if_neg (pu_nle (by omega) (by omega) (by omega))]
            unfold M_X6_fall_b41
            rw [fb_C hD hV]
            by_cases q : cfB R (st D) (nI k) = true ∧ lz R A needs forbids (st D) (nI k)
            · rw [if_pos q]
              exact ih _ (.inr ⟨k, hk, rfl, q.1, q.2, up 0 _ (fun k' hk' z1 z2 => Nat.le_trans (by omega) (c3 k' hk' z1 z2)) (fun _ _ => Nat.le_refl _)⟩)
            · rw [if_neg q]
              exact ih _ (.inr ⟨b, hb, rfl, c1, c2, up 0 _ c3 (fun z1 z2 => absurd ⟨z1, z2⟩ q)⟩))
      (-9) (.inl ⟨rfl, fun k' h => absurd h (by omega)⟩)
  obtain ⟨v, la', k1, k2⟩ := key
  refine ⟨v, la', ?_, k2⟩
  rw [b_fall]; unfold M_X6_fall M_X2_isEmpty
  rw [if_neg (eN 0 (by omega) (by omega)), if_pos rfl]
  show (M_X6_fall_b18 st (nI D) (nI R) (nI A) needs forbids x_fuel la (-9) (nI 0)).bind _ = _
  rw [k1]
  rfl
theorem t_idle (hD : D ≤ 40) (h0 : 0 < R) (hV : pu_V R A kinds strengths moved needs forbids (st D)) :
    ∃ v, M_LR_idle (TS Y R A kinds strengths moved needs forbids lf la up lo rsz rpl st (nI D) ks kz fc rch tr) = some v ∧ ∀ j, j < 32 → bt v j = (decide (j < R) && cfB R (st D) ((1 : Int32) <<< (nI j &&& 31)) && decide (lawF R A needs forbids (tautF (ap (st D) ((1 : Int32) <<< (nI j &&& 31)))) = lawF R A needs forbids (tautF (st D)))) := by
  have hR := (V_R hV).1
  have key : ∃ v, M_X6_idle_b26 st (nI D) (nI R) (nI A) needs forbids x_fuel (st D) 0 (nI 0) = some v ∧ ∀ j, j < 32 → bt v j = (decide (j < R) && cfB R (st D) ((1 : Int32) <<< (nI j &&& 31)) && decide (lawF R A needs forbids (tautF (ap (st D) ((1 : Int32) <<< (nI j &&& 31)))) = lawF R A needs forbids (tautF (st D)))) :=
    pu_lp (fun n k (x : Int32) => ∃ v, M_X6_idle_b26 st (nI D) (nI R) (nI A) needs forbids n (st D) x (nI k) = some v ∧ ∀ j, j < 32 → bt v j = (decide (j < R) && cfB R (st D) ((1 : Int32) <<< (nI j &&& 31)) && decide (lawF R A needs forbids (tautF (ap (st D) ((1 : Int32) <<< (nI j &&& 31)))) = lawF R A needs forbids (tautF (st D)))))
      (fun k x => ∀ j, j < 32 → bt x j = (decide (j < k) && cfB R (st D) ((1 : Int32) <<< (nI j &&& 31)) && decide (lawF R A needs forbids (tautF (ap (st D) ((1 : Int32) <<< (nI j &&& 31)))) = lawF R A needs forbids (tautF (st D))))) R (by omega)
      (fun n x h => ⟨x, by rw [M_X6_idle_b26, if_pos (pu_le (by omega) (by omega) (Nat.le_refl R))], h⟩)
      (fun n k x hk h ih => by
        rw [M_X6_idle_b26, if_neg (nI_ge hk (by omega)), cf_T hD hR, Option.bind_some, st_apE, Option.bind_some, V_law (V_ap hV _), Option.bind_some, V_law hV, Option.bind_some]
        unfold M_X6_idle_b82
        rw [nI_1]
        have stay : ∀ (hq : (cfB R (st D) ((1 : Int32) <<< (nI k &&& 31)) && decide (lawF R A needs forbids (tautF (ap (st D) ((1 : Int32) <<< (nI k &&& 31)))) = lawF R A needs forbids (tautF (st D)))) = false), ∀ j, j < 32 → bt x j = (decide (j < k + 1) && cfB R (st D) ((1 : Int32) <<< (nI j &&& 31)) && decide (lawF R A needs forbids (tautF (ap (st D) ((1 : Int32) <<< (nI j &&& 31)))) = lawF R A needs forbids (tautF (st D)))) := fun hq j hj => by
          rw [h j hj]
          by_cases e : j = k
          · subst e; rw [Bool.and_assoc, Bool.and_assoc, hq, Bool.and_false, Bool.and_false]
          · rw [show decide (j < k) = decide (j < k + 1) from decide_eq_decide.mpr (by omega)]
        by_cases q : cfB R (st D) ((1 : Int32) <<< (nI k &&& 31)) = true
        · rw [if_pos q, if_neg (by decide)]
          by_cases w : lawF R A needs forbids (tautF (ap (st D) ((1 : Int32) <<< (nI k &&& 31)))) = lawF R A needs forbids (tautF (st D))
          · rw [if_pos w]
            refine ih _ (fun j hj => ?_)
            rw [b_or, b_sb (by omega) hj, h j hj]
            by_cases e : j = k
            · subst e; rw [q, decide_eq_true w, decide_eq_true rfl, decide_eq_true (show j < j + 1 by omega), Bool.or_true]; rfl
            · rw [decide_eq_false e, Bool.or_false, show decide (j < k) = decide (j < k + 1) from decide_eq_decide.mpr (by omega)]
          · rw [if_neg w]
            exact ih _ (stay (by rw [decide_eq_false w, Bool.and_false]))
        · rw [if_neg q, if_pos rfl]
          exact ih _ (stay (by rw [Bool.eq_false_iff.mpr q, Bool.false_and])))
      0 (fun j hj => by rw [b_0]; simp)
  obtain ⟨v, k1, k2⟩ := key
  refine ⟨v, ?_, k2⟩
  rw [b_idle]; unfold M_X6_idle M_X2_isEmpty
  rw [if_neg (eN 0 (by omega) (by omega)), if_pos rfl, now_C hD, Option.bind_some]
  show (M_X6_idle_b26 st (nI D) (nI R) (nI A) needs forbids x_fuel (st D) 0 (nI 0)).bind _ = _
  rw [k1]
  rfl
/-! share -/
theorem rm_T (hD : D ≤ 40) (hRS : pu_RS R A kinds strengths moved needs forbids m) {q : Nat → Int32} {g : Nat → Nat} (hg : ∀ i, i < R → q i = nI (g i) ∧ g i ≤ fr R kinds strengths (st D) i) :
    ∃ b, M_X6_roomiest (upd rsz 4 (nI R)) (upd2 rpl 4 q) st (nI D) (nI R) kinds strengths (nI 4) = some b ∧ ((b = -9 ∧ ∀ i, i < R → fr R kinds strengths (st D) i ≤ g i) ∨ ∃ i, i < R ∧ b = nI i ∧ g i < fr R kinds strengths (st D) i) := by
  have hR := hRS.1
  unfold M_X6_roomiest
  rw [now_C hD, Option.bind_some]
  exact pu_lp (fun n k (x : Int32 × Int32) => ∃ b, M_X6_roomiest_b18 (upd rsz 4 (nI R)) (upd2 rpl 4 q) st (nI D) (nI R) kinds strengths n (nI 4) (st D) x.1 x.2 (nI k) = some b ∧ ((b = -9 ∧ ∀ i, i < R → fr R kinds strengths (st D) i ≤ g i) ∨ ∃ i, i < R ∧ b = nI i ∧ g i < fr R kinds strengths (st D) i))
    (fun k x => (x.1 = -9 ∧ x.2 = 0 ∧ ∀ i, i < k → fr R kinds strengths (st D) i ≤ g i) ∨ (0 ≤ x.2.toInt ∧ ∃ i, i < R ∧ x.1 = nI i ∧ g i < fr R kinds strengths (st D) i)) R (by omega)
    (fun n x h => ⟨x.1, by rw [M_X6_roomiest_b18, if_pos (pu_le (by omega) (by omega) (Nat.le_refl R))], h.imp (fun z => ⟨z.1, z.2.2⟩) (fun z => z.2)⟩)
    (fun n k x hk h ih => by
      obtain ⟨h1, h2⟩ := hd_e hRS hk
      obtain ⟨g1, g2⟩ := hg k hk
      have hsv := sv_lt (st D) k
      have hfr : fr R kinds strengths (st D) k ≤ 10 := by unfold fr; split <;> omega
      rw [M_X6_roomiest_b18, if_neg (nI_ge hk (by omega)), h1, Option.bind_some, pu_get (by decide) (by decide) (show R ≤ 40 by omega) (by decide) pu_us hk, Option.bind_some, pu_2s, g1, sv_e, st_isFast _ (by omega)]
      unfold M_X6_roomiest_b83
      rw [nI_1]
      have ei := i3 (a := hd R kinds strengths k) (b := sv (st D) k) (c := g k) (by omega) (by omega) (by omega)
      cases hf : (bl (st D) (24 + k) || bl (st D) (30 + k))
      · have e0 : fr R kinds strengths (st D) k = hd R kinds strengths k - sv (st D) k := by unfold fr fastB; rw [hf]; rfl
        rw [if_neg (show ¬ (if false = true then (0 : Int32) else 1) = 0 by decide)]
        by_cases w : (nI (hd R kinds strengths k) - nI (sv (st D) k) - nI (g k)) ≤ x.2
        · rw [if_pos w]
          refine ih x ?_
          rw [Int32.le_iff_toInt_le, ei] at w
          rcases h with ⟨a1, a2, a3⟩ | a
          · refine .inl ⟨a1, a2, fun i hi => ?_⟩
            by_cases e : i = k
            · subst e
              rw [a2] at w
              have : (0 : Int32).toInt = 0 := by decide
              omega
            · exact a3 i (by omega)
          · exact .inr a
        · rw [if_neg w]
          rw [Int32.le_iff_toInt_le, ei] at w
          have x0 : 0 ≤ x.2.toInt := by
            rcases h with ⟨a1, a2, a3⟩ | a
            · rw [a2]; decide
            · exact a.1
          exact ih (nI k, nI (hd R kinds strengths k) - nI (sv (st D) k) - nI (g k)) (.inr ⟨by show 0 ≤ (nI (hd R kinds strengths k) - nI (sv (st D) k) - nI (g k)).toInt; rw [ei]; omega, k, hk, rfl, by omega⟩)
      · rw [if_pos (show (if true = true then (0 : Int32) else 1) = 0 by decide)]
        refine ih x (h.imp (fun z => ⟨z.1, z.2.1, fun i hi => ?_⟩) id)
        by_cases e : i = k
        · subst e
          have : fr R kinds strengths (st D) i = 0 := by unfold fr fastB; rw [hf]; rfl
          omega
        · exact z.2.2 i (by omega))
    (-9, 0) (.inl ⟨rfl, rfl, fun i hi => absurd hi (by omega)⟩)
theorem t_share (hD : D ≤ 40) (h0 : 0 < R) (hRS : pu_RS R A kinds strengths moved needs forbids m) {v : Nat} (hv : v ≤ 60) :
    ∃ l q g, M_LR_share (TS Y R A kinds strengths moved needs forbids lf la up lo rsz rpl st (nI D) ks kz fc rch tr) (nI v) (4 : Int32) = some (nI l, (TS Y R A kinds strengths moved needs forbids lf la up lo (upd rsz 4 (nI R)) (upd2 rpl 4 q) st (nI D) ks kz fc rch tr)) ∧ (∀ i, i < R → q i = nI (g i) ∧ g i ≤ fr R kinds strengths (st D) i) ∧ smG g R + l = v ∧ (0 < l → smG g R = smG (fr R kinds strengths (st D)) R) := by
  have hR := hRS.1
  obtain ⟨q0, m1, m2⟩ := pu_make (N := 6) (M := 40) (sizes := rsz) (places := rpl) (r := 4) (by decide) (by decide) (z := R) (by omega) (by decide) (most := 40) (blank := 0) rfl
  have hz : smG (fun _ => 0) R = 0 := by
    have : ∀ k, smG (fun _ => 0) k = 0 := fun k => by
      induction k with
      | zero => rfl
      | succ k ih => show smG (fun _ => 0) k + 0 = 0; rw [ih]
    exact this R
  have key : ∃ l q g, M_X6_share_b53 st (nI D) (nI R) kinds strengths x_fuel (upd rsz 4 (nI R)) (upd2 rpl 4 q0) (nI v) (nI 4) (nI 0) = some (nI l, upd rsz 4 (nI R), upd2 rpl 4 q) ∧ (∀ i, i < R → q i = nI (g i) ∧ g i ≤ fr R kinds strengths (st D) i) ∧ smG g R + l = v ∧ (0 < l → smG g R = smG (fr R kinds strengths (st D)) R) :=
    pu_lp (fun n k (x : Nat → Nat → Int32) => ∃ l q g, M_X6_share_b53 st (nI D) (nI R) kinds strengths n (upd rsz 4 (nI R)) x (nI v) (nI 4) (nI k) = some (nI l, upd rsz 4 (nI R), upd2 rpl 4 q) ∧ (∀ i, i < R → q i = nI (g i) ∧ g i ≤ fr R kinds strengths (st D) i) ∧ smG g R + l = v ∧ (0 < l → smG g R = smG (fr R kinds strengths (st D)) R))
      (fun k x => ∃ q g, x = upd2 rpl 4 q ∧ (∀ i, i < R → q i = nI (g i) ∧ g i ≤ fr R kinds strengths (st D) i) ∧ smG g R = k) v (by omega)
      (fun n x ⟨q, g, e, h1, h2⟩ => ⟨0, q, g, by rw [M_X6_share_b53, if_pos (pu_le (by omega) (by omega) (Nat.le_refl v)), e]; rfl, h1, by omega, fun z => absurd z (by omega)⟩)
      (fun n k x hk ⟨q, g, e, h1, h2⟩ ih => by
        obtain ⟨b, b1, b2⟩ := rm_T (rsz := rsz) (rpl := rpl) hD hRS h1
        rw [M_X6_share_b53, if_neg (nI_ge hk (by omega)), e, b1, Option.bind_some]
        rcases b2 with ⟨rfl, b2⟩ | ⟨i, hi, rfl, b2⟩
        · rw [if_pos rfl, pk_sub (by omega)]
          exact ⟨v - k, q, g, rfl, h1, by omega, fun _ => smG_eq (fun i hi => Nat.le_antisymm (h1 i hi).2 (b2 i hi))⟩
        · rw [if_neg (pu_nI9 (by omega)), pu_get (by decide) (by decide) (show R ≤ 40 by omega) (by decide) pu_us hi, Option.bind_some, pu_2s, pu_set (by decide) (by decide) (show R ≤ 40 by omega) (by decide) pu_us hi, Option.bind_some, pu_22, pu_2s, nI_1]
          refine ih _ ⟨_, fun j => if j = i then g i + 1 else g j, rfl, fun j hj => ?_, ?_⟩
          · by_cases e2 : j = i
            · subst e2
              rw [pu_us, (h1 j hj).1, nI_1]
              simp only [if_true]
              exact ⟨trivial, b2⟩
            · rw [pu_un e2]
              simp only [if_neg e2]
              exact h1 j hj
          · have := smG_up (g := g) (f := fun j => if j = i then g i + 1 else g j) (i := i) R hi (fun j hj hji => if_neg hji)
            simp only [if_true] at this
            omega)
      (upd2 rpl 4 q0) ⟨q0, fun _ => 0, rfl, fun i hi => ⟨m2 i hi, Nat.zero_le _⟩, hz⟩
  obtain ⟨l, q, g, k1, k2⟩ := key
  refine ⟨l, q, g, ?_, k2⟩
  rw [b_share]; unfold M_X6_share M_X2_isEmpty
  rw [if_neg (nI_pos (by omega)), if_neg (rN 60 hv)]
  show (if M_X4_isNumber 6 40 (nI 4) = 0 then _ else _ : Option _).bind _ = _
  rw [pu_isN (by decide) (by decide), if_neg (by decide), if_neg (eN 0 (by omega) (by omega)), if_pos rfl]
  show (Option.bind (M_X4_make 6 40 40 0 rsz rpl (nI 4) (nI R)) _).bind _ = _
  rw [m1, Option.bind_some]
  show (M_X6_share_b53 st (nI D) (nI R) kinds strengths x_fuel (upd rsz 4 (nI R)) (upd2 rpl 4 q0) (nI v) (nI 4) (nI 0)).bind _ = _
  rw [k1]
  rfl
end
