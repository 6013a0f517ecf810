/-! PURE PART: the text of a court is read -/
def LW (R A : Nat) (row : Nat → Int32) : Prop :=
  1 ≤ R ∧ R ≤ 6 ∧ 1 ≤ A ∧ A ≤ 4 ∧ row 0 = nI R ∧ row 1 = nI A ∧ (∃ f, f < 2 ∧ row 26 = nI f) ∧
  (∀ i, i < R → (∃ k, k < 6 ∧ row (2 + i) = nI k) ∧ (∃ v, 1 ≤ v ∧ v < 10 ∧ row (8 + i) = nI v ∧ ∃ s, s ≤ v ∧ row (20 + i) = nI s) ∧ (∃ t, t < 6 ∧ row (14 + i) = nI t)) ∧
  (∀ a, a < A → (∃ p, p < 64 ∧ row (27 + a) = nI p) ∧ ∃ q, q < 64 ∧ row (31 + a) = nI q)
def TX (R A : Nat) (row signs : Nat → Int32) : Prop :=
  signs 0 = 104 ∧ signs 1 = 48 + row 26 ∧
  (∀ i, i < R → signs (2 + 4 * i) = M_L_letter (row (2 + i)) ∧ signs (3 + 4 * i) = 48 + row (8 + i) ∧ signs (4 + 4 * i) = 48 + row (14 + i) ∧ signs (5 + 4 * i) = 48 + row (20 + i)) ∧
  (∀ a, a < A → signs (2 + 4 * R + 5 * a) = 97 ∧ signs (2 + 4 * R + 5 * a + 1) = 48 + row (27 + a) / 10 ∧ signs (2 + 4 * R + 5 * a + 2) = 48 + (row (27 + a) - row (27 + a) / 10 * 10) ∧ signs (2 + 4 * R + 5 * a + 3) = 48 + row (31 + a) / 10 ∧ signs (2 + 4 * R + 5 * a + 4) = 48 + (row (31 + a) - row (31 + a) / 10 * 10))
theorem TX.of {R A : Nat} {row signs signs' : Nat → Int32} (h : TX R A row signs) (e : ∀ j, j < 2 + 4 * R + 5 * A → signs' j = signs j) : TX R A row signs' := by
  obtain ⟨h1, h2, h3, h4⟩ := h
  refine ⟨by rw [e _ (by omega), h1], by rw [e _ (by omega), h2], fun i hi => ?_, fun a ha => ?_⟩
  · rw [e _ (by omega), e _ (by omega), e _ (by omega), e _ (by omega)]; exact h3 i hi
  · rw [e _ (by omega), e _ (by omega), e _ (by omega), e _ (by omega), e _ (by omega)]; exact h4 a ha
def ZS (R : Nat) (row : Nat → Int32) (s : Int64) : Prop :=
  (∀ i, i < R → M_X5_strain s (nI i) = row (20 + i)) ∧ (∀ i, R ≤ i → i < 6 → M_X5_strain s (nI i) = 0) ∧ M_X5_letGo s = 0 ∧ M_X5_parted s = 0 ∧ M_X5_frostIn s = row 26
def RD (R A : Nat) (row kinds strengths moved needs forbids : Nat → Int32) (s : Int64) : Prop :=
  (∀ i, i < R → kinds i = row (2 + i) ∧ strengths i = row (8 + i) ∧ moved i = row (14 + i)) ∧ (∀ a, a < A → needs a = row (27 + a) ∧ forbids a = row (31 + a)) ∧ ZS R row s
theorem lt_T : ∀ k, k < 6 → M_X1_kindOfLetter (M_L_letter (nI k)) = nI k ∧ ¬ M_L_letter (nI k) = 32 ∧ ¬ M_L_letter (nI k) = 97 := by decide +kernel
theorem z0_T : ∀ i, i < 6 → M_X5_strain 0 (nI i) = 0 := by decide +kernel
theorem z00_T : M_X5_letGo 0 = 0 ∧ M_X5_parted 0 = 0 := by decide +kernel
theorem e48 (v : Nat) : (48 : Int32) + nI v - 48 = nI v := by
  show nI 48 + nI v - nI 48 = nI v
  rw [nI_add, pk_sub (by omega), Nat.add_sub_cancel_left]
section
variable {signs : Nat → Int32} {n p : Nat}
theorem sg_T (hp : p < n) (hn : n ≤ 60) : M_X1_sign signs (nI n) (nI p) = some (signs p) := by
  unfold M_X1_sign
  rw [if_neg (nI_pos (by omega)), if_neg (nI_ge hp (by omega)), if_neg (gN 60 (by omega)), if_pos (pu_inb (by omega) (by decide)), nI_clamp (by omega)]
theorem fg_T {lo hi v : Nat} (hp : p < n) (hn : n ≤ 60) (hs : signs p = 48 + nI v) (h1 : lo ≤ v) (h2 : v ≤ hi) (h3 : hi < 100) : M_X1_figure signs (nI n) (nI p) (-9) (nI lo) (nI hi) = some (nI v, nI (p + 1), -9) := by
  unfold M_X1_figure
  rw [if_pos rfl, if_pos (pu_lt (by omega) (by omega) hp), sg_T hp hn, Option.bind_some, hs, e48, if_neg (pu_nlt (by omega) (by omega) h1), if_pos (pu_le (by omega) (by omega) h2), nI_1]
theorem mo_T (hp : p < n) (hn : n ≤ 60) (hs : ¬ signs p = 32) : M_X1_isMoreAhead signs (nI n) (nI p) = some (1, nI p) := by
  show M_X1_isMoreAhead_b0 signs (nI n) (999999 + 1) (nI p) = _
  rw [M_X1_isMoreAhead_b0, if_neg (nI_ge hp (by omega)), sg_T hp hn, Option.bind_some, if_neg hs]
  unfold M_X1_isMoreAhead_b33
  rw [if_neg (nI_ge hp (by omega))]
theorem mo_E (hn : n ≤ 60) : M_X1_isMoreAhead signs (nI n) (nI n) = some (0, nI n) := by
  show M_X1_isMoreAhead_b0 signs (nI n) (999999 + 1) (nI n) = _
  rw [M_X1_isMoreAhead_b0, if_pos (pu_le (by omega) (by omega) (Nat.le_refl n))]
  unfold M_X1_isMoreAhead_b33
  rw [if_pos (pu_le (by omega) (by omega) (Nat.le_refl n))]
end
theorem n10_d {p : Nat} (hp : p < 64) : nI p / (10 : Int32) = nI (p / 10) ∧ nI p - nI p / (10 : Int32) * (10 : Int32) = nI (p % 10) := ⟨pk_div (d := 10) (by omega) (by omega) (by omega), pk_rem (d := 10) (by omega) (by omega) (by omega)⟩
section
variable {R A : Nat} {row signs kinds strengths moved needs forbids : Nat → Int32} {start : Int64} {rch : Int32}
theorem it_h (hL : LW R A row) (hX : TX R A row signs) {n : Nat} (hn : n = 2 + 4 * R + 5 * A) (hn6 : n ≤ 60) : M_X1_readItem signs (nI n) (nI 0) (-9) 0 0 0 0 kinds strengths moved needs forbids = some (nI 2, -9, 1, 0, 0, M_X5_afterFrost 0 (row 26), kinds, strengths, moved, needs, forbids) := by
  obtain ⟨f, hf, ef⟩ := hL.2.2.2.2.2.2.1
  unfold M_X1_readItem M_X1_readHead
  rw [sg_T (by omega) hn6, hX.1, Option.bind_some, if_pos rfl, if_pos rfl, nI_1]
  show (((M_X1_figure signs (nI n) (nI 1) (-9) (nI 0) (nI 1)).bind _).bind _) = _
  rw [fg_T (v := f) (by omega) hn6 (by rw [hX.2.1, ef]) (by omega) (by omega) (by omega), ef]
  rfl
theorem it_r (hL : LW R A row) (hX : TX R A row signs) {n : Nat} (hn : n = 2 + 4 * R + 5 * A) (hn6 : n ≤ 60) {i : Nat} (hi : i < R) : M_X1_readItem signs (nI n) (nI (2 + 4 * i)) (-9) 1 (nI i) 0 start kinds strengths moved needs forbids = some (nI (2 + 4 * (i + 1)), -9, 1, nI (i + 1), 0, M_X5_afterStrain start (nI i) (row (20 + i)), upd kinds i (row (2 + i)), upd strengths i (row (8 + i)), upd moved i (row (14 + i)), needs, forbids) := by
  obtain ⟨l1, l2, l3, l4, l5, l6, l7, l8, l9⟩ := hL
  obtain ⟨⟨k, hk, ek⟩, ⟨v, hv1, hv, ev, s, hs, es⟩, ⟨t, ht, et⟩⟩ := l8 i hi
  obtain ⟨x1, x2, x3, x4⟩ := hX.2.2.1 i hi
  obtain ⟨k1, k2, k3⟩ := lt_T k hk
  rw [ek] at x1
  unfold M_X1_readItem M_X1_readItem_b31 M_X1_readItem_b67 M_X1_readRope M_X2_addRope
  rw [sg_T (by omega) hn6, x1, Option.bind_some, if_neg n10, if_neg n10, if_neg k3, if_neg n10, k1, if_neg (pu_nI9 (by omega)), if_pos p00, if_neg (gN 6 (by omega)), nI_1]
  show ((((M_X1_figure signs (nI n) (nI (2 + 4 * i + 1)) (-9) (nI 1) (nI 9)).bind _)).bind _) = _
  rw [fg_T (v := v) (by omega) hn6 (by rw [show 2 + 4 * i + 1 = 3 + 4 * i by omega, x2, ev]) hv1 (by omega) (by omega), Option.bind_some]
  show ((((M_X1_figure signs (nI n) (nI (2 + 4 * i + 1 + 1)) (-9) (nI 0) (nI 5)).bind _)).bind _) = _
  rw [fg_T (v := t) (by omega) hn6 (by rw [show 2 + 4 * i + 1 + 1 = 4 + 4 * i by omega, x3, et]) (by omega) (by omega) (by omega), Option.bind_some]
  show ((((M_X1_figure signs (nI n) (nI (2 + 4 * i + 1 + 1 + 1)) (-9) (nI 0) (nI v)).bind _)).bind _) = _
  rw [fg_T (v := s) (by omega) hn6 (by rw [show 2 + 4 * i + 1 + 1 + 1 = 5 + 4 * i by omega, x4, es]) (by omega) hs (by omega), Option.bind_some]
  rw [if_pos rfl, if_neg (nI_pos (by omega)), if_neg (gN 6 (by omega)), if_pos (pu_inb (by omega) (by decide)), nI_clamp (by omega), nI_1, ek, ev, et, es, show 2 + 4 * i + 1 + 1 + 1 + 1 = 2 + 4 * (i + 1) by omega]
  rfl
theorem rs_T {n p q : Nat} (hp : p + 1 < n) (hn : n ≤ 60) (hq : q < 64) (h1 : signs p = 48 + nI q / 10) (h2 : signs (p + 1) = 48 + (nI q - nI q / 10 * 10)) : M_X1_ropeSet signs (nI n) (nI p) (-9) = some (nI q, nI (p + 2), -9) := by
  obtain ⟨e1, e2⟩ := n10_d hq
  unfold M_X1_ropeSet
  show ((M_X1_figure signs (nI n) (nI p) (-9) (nI 0) (nI 9)).bind _) = _
  rw [fg_T (v := q / 10) (by omega) hn (by rw [h1, e1]) (by omega) (by omega) (by omega), Option.bind_some]
  show ((M_X1_figure signs (nI n) (nI (p + 1)) (-9) (nI 0) (nI 9)).bind _) = _
  rw [fg_T (v := q % 10) (by omega) hn (by rw [h2, e2]) (by omega) (by omega) (by omega), Option.bind_some]
  have e : (10 : Int32) * nI (q / 10) + nI (q % 10) = nI q := by
    show nI 10 * nI (q / 10) + nI (q % 10) = nI q
    rw [pk_mul, nI_add, Nat.div_add_mod]
  show (if (-9 : Int32) = -9 then (if (10 : Int32) * nI (q / 10) + nI (q % 10) ≤ 63 then some ((10 : Int32) * nI (q / 10) + nI (q % 10), nI (p + 1 + 1), -9) else _) else _ : Option _) = _
  rw [if_pos rfl, e, if_pos (aL 63 (by omega))]
theorem it_a (hL : LW R A row) (hX : TX R A row signs) {n : Nat} (hn : n = 2 + 4 * R + 5 * A) (hn6 : n ≤ 60) {a : Nat} (ha : a < A) : M_X1_readItem signs (nI n) (nI (2 + 4 * R + 5 * a)) (-9) 1 (nI R) (nI a) start kinds strengths moved needs forbids = some (nI (2 + 4 * R + 5 * (a + 1)), -9, 1, nI R, nI (a + 1), start, kinds, strengths, moved, upd needs a (row (27 + a)), upd forbids a (row (31 + a))) := by
  obtain ⟨l1, l2, l3, l4, l5, l6, l7, l8, l9⟩ := hL
  obtain ⟨⟨p, hp, ep⟩, ⟨q, hq, eq⟩⟩ := l9 a ha
  obtain ⟨x1, x2, x3, x4, x5⟩ := hX.2.2.2 a ha
  rw [ep] at x2 x3
  rw [eq] at x4 x5
  unfold M_X1_readItem M_X1_readItem_b31 M_X1_readAct M_X2_addAct
  rw [sg_T (by omega) hn6, x1, Option.bind_some, if_neg n10, if_neg n10, if_pos rfl, if_neg (nI_nle (by omega) (by omega)), if_neg (gN 4 (by omega)), nI_1, rs_T (by omega) hn6 hp x2 x3, Option.bind_some]
  show (((M_X1_ropeSet signs (nI n) (nI (2 + 4 * R + 5 * a + 1 + 2)) (-9)).bind _).bind _) = _
  rw [rs_T (by omega) hn6 hq x4 x5, Option.bind_some]
  rw [if_pos rfl, if_neg (nI_pos (by omega)), if_neg (gN 4 (by omega)), if_pos (pu_inb (by omega) (by decide)), nI_clamp (by omega), nI_1, ep, eq, show 2 + 4 * R + 5 * a + 1 + 2 + 2 = 2 + 4 * R + 5 * (a + 1) by omega]
  rfl
theorem ra_T (hL : LW R A row) (hX : TX R A row signs) (tsz : Nat → Int32) (tpl : Nat → Nat → Int32) {n : Nat} (hn : n = 2 + 4 * R + 5 * A) (hn6 : n ≤ 60) (rch : Int32) {fu : Nat} (hfu : 100 < fu) :
    ∃ ne fo, M_X1_read_b13 tsz tpl fu signs (nI n) (nI (2 + 4 * R + 5 * 0)) (-9) 1 (nI R) (nI 0) start rch kinds strengths moved needs forbids (nI (1 + R + 0)) = some (-9, signs, nI n, nI n, -9, 1, nI R, nI A, start, rch, kinds, strengths, moved, ne, fo) ∧ ∀ a, a < A → ne a = row (27 + a) ∧ fo a = row (31 + a) := by
  have hA1 := hL.2.2.1
  have hA := hL.2.2.2.1
  have hR := hL.2.1
  exact pu_loop (fun fu k (x : (Nat → Int32) × (Nat → Int32)) => ∃ ne fo, M_X1_read_b13 tsz tpl fu signs (nI n) (nI (2 + 4 * R + 5 * k)) (-9) 1 (nI R) (nI k) start rch kinds strengths moved x.1 x.2 (nI (1 + R + k)) = some (-9, signs, nI n, nI n, -9, 1, nI R, nI A, start, rch, kinds, strengths, moved, ne, fo) ∧ ∀ a, a < A → ne a = row (27 + a) ∧ fo a = row (31 + a))
    (fun k x => ∀ a, a < k → x.1 a = row (27 + a) ∧ x.2 a = row (31 + a)) A
    (fun fu x h => ⟨x.1, x.2, by
      rw [M_X1_read_b13, if_neg (gN 60 (by omega)), if_pos rfl, ← hn, mo_E hn6, Option.bind_some, if_pos p00]
      unfold M_X1_read_b47
      rw [if_pos rfl, if_neg (eN 0 (by omega) (by omega))], h⟩)
    (fun fu k x hk h ih => by
      obtain ⟨x1, -⟩ := hX.2.2.2 k hk
      rw [M_X1_read_b13, if_neg (gN 60 (by omega)), if_pos rfl, mo_T (by omega) hn6 (by rw [x1]; decide), Option.bind_some, if_neg n10, it_a hL hX hn hn6 hk, Option.bind_some, nI_1]
      refine ih (upd x.1 k (row (27 + k)), upd x.2 k (row (31 + k))) (fun a ha => ?_)
      show upd x.1 k (row (27 + k)) a = _ ∧ upd x.2 k (row (31 + k)) a = _
      by_cases e : a = k
      · subst e; rw [pu_us, pu_us]; exact ⟨rfl, rfl⟩
      · rw [pu_un e, pu_un e]; exact h a (by omega))
    A fu 0 (needs, forbids) (by omega) (by omega) (fun a ha => absurd ha (by omega))
theorem rr_T (hL : LW R A row) (hX : TX R A row signs) (tsz : Nat → Int32) (tpl : Nat → Nat → Int32) {n : Nat} (hn : n = 2 + 4 * R + 5 * A) (hn6 : n ≤ 60) (rch : Int32) :
    ∃ st' ki sr mo ne fo, M_X1_read_b13 tsz tpl 999999 signs (nI n) (nI (2 + 4 * 0)) (-9) 1 (nI 0) 0 (M_X5_afterFrost 0 (row 26)) rch kinds strengths moved needs forbids (nI (1 + 0)) = some (-9, signs, nI n, nI n, -9, 1, nI R, nI A, st', rch, ki, sr, mo, ne, fo) ∧ RD R A row ki sr mo ne fo st' := by
  have hR1 := hL.1
  have hR := hL.2.1
  obtain ⟨f, hf, ef⟩ := hL.2.2.2.2.2.2.1
  exact pu_loop (fun fu k (x : Int64 × (Nat → Int32) × (Nat → Int32) × (Nat → Int32)) => fu + k = 999999 → ∃ st' ki sr mo ne fo, M_X1_read_b13 tsz tpl fu signs (nI n) (nI (2 + 4 * k)) (-9) 1 (nI k) 0 x.1 rch x.2.1 x.2.2.1 x.2.2.2 needs forbids (nI (1 + k)) = some (-9, signs, nI n, nI n, -9, 1, nI R, nI A, st', rch, ki, sr, mo, ne, fo) ∧ RD R A row ki sr mo ne fo st')
    (fun k x => (∀ i, i < k → x.2.1 i = row (2 + i) ∧ x.2.2.1 i = row (8 + i) ∧ x.2.2.2 i = row (14 + i)) ∧ (∀ i, i < k → M_X5_strain x.1 (nI i) = row (20 + i)) ∧ (∀ i, k ≤ i → i < 6 → M_X5_strain x.1 (nI i) = 0) ∧ M_X5_letGo x.1 = 0 ∧ M_X5_parted x.1 = 0 ∧ M_X5_frostIn x.1 = row 26) R
    (fun fu x h hfu => by
      obtain ⟨ne, fo, k1, k2⟩ := ra_T (start := x.1) (kinds := x.2.1) (strengths := x.2.2.1) (moved := x.2.2.2) (needs := needs) (forbids := forbids) hL hX tsz tpl hn hn6 rch (fu := fu + 1) (by omega)
      exact ⟨x.1, x.2.1, x.2.2.1, x.2.2.2, ne, fo, k1, h.1, k2, h.2⟩)
    (fun fu k x hk h ih hfu => by
      obtain ⟨⟨kk, hkk, ek⟩, ⟨v, hv1, hv, ev, s, hs, es⟩, -⟩ := hL.2.2.2.2.2.2.2.1 k hk
      obtain ⟨x1, -⟩ := hX.2.2.1 k hk
      rw [M_X1_read_b13, if_neg (gN 60 (by omega)), if_pos rfl, mo_T (by omega) hn6 (by rw [x1, ek]; exact (lt_T kk hkk).2.1), Option.bind_some, if_neg n10, it_r hL hX hn hn6 hk, Option.bind_some, nI_1]
      obtain ⟨h1, h2, h3, h4, h5, h6⟩ := h
      refine ih (M_X5_afterStrain x.1 (nI k) (row (20 + k)), upd x.2.1 k (row (2 + k)), upd x.2.2.1 k (row (8 + k)), upd x.2.2.2 k (row (14 + k))) ⟨fun i hi => ?_, fun i hi => ?_, fun i h7 h8 => ?_, ?_, ?_, ?_⟩ (by omega)
      · show upd x.2.1 k (row (2 + k)) i = _ ∧ upd x.2.2.1 k (row (8 + k)) i = _ ∧ upd x.2.2.2 k (row (14 + k)) i = _
        by_cases e : i = k
        · subst e; rw [pu_us, pu_us, pu_us]; exact ⟨rfl, rfl, rfl⟩
        · rw [pu_un e, pu_un e, pu_un e]; exact h1 i (by omega)
      · show M_X5_strain (M_X5_afterStrain x.1 (nI k) (row (20 + k))) (nI i) = _
        by_cases e : i = k
        · subst e; rw [es]; exact as_self _ (by omega) (by omega)
        · rw [as_other _ (by omega) (by omega) e]; exact h2 i (by omega)
      · show M_X5_strain (M_X5_afterStrain x.1 (nI k) (row (20 + k))) (nI i) = _
        rw [as_other _ (by omega) h8 (by omega)]; exact h3 i (by omega) h8
      · show M_X5_letGo (M_X5_afterStrain x.1 (nI k) (row (20 + k))) = _
        rw [as_letGo _ (by omega)]; exact h4
      · show M_X5_parted (M_X5_afterStrain x.1 (nI k) (row (20 + k))) = _
        rw [as_parted _ (by omega)]; exact h5
      · show M_X5_frostIn (M_X5_afterStrain x.1 (nI k) (row (20 + k))) = _
        rw [as_frost _ (by omega)]; exact h6)
    R 999999 0 (M_X5_afterFrost 0 (row 26), kinds, strengths, moved) (by omega) (by omega)
    ⟨fun i hi => absurd hi (by omega), fun i hi => absurd hi (by omega), fun i _ h6 => by rw [af_strain _ h6]; exact z0_T i h6, by rw [af_letGo]; exact z00_T.1, by rw [af_parted]; exact z00_T.2, by rw [ef]; exact af_frost _ hf⟩ (by omega)
theorem read_T (hL : LW R A row) {tsz : Nat → Int32} {tpl : Nat → Nat → Int32} (hX : TX R A row (tpl 0)) (hz : tsz 0 = nI (2 + 4 * R + 5 * A)) (sg0 : Nat → Int32) (a1 a2 a3 a4 a5 a6 : Int32) (a7 : Int64) (a8 : Int32) :
    ∃ sg st' ki sr mo ne fo, M_X1_read tsz tpl sg0 a1 a2 a3 a4 a5 a6 a7 a8 kinds strengths moved needs forbids 0 = some (-9, sg, nI (2 + 4 * R + 5 * A), nI (2 + 4 * R + 5 * A), -9, 1, nI R, nI A, st', 0, ki, sr, mo, ne, fo) ∧ RD R A row ki sr mo ne fo st' := by
  have hn6 : 2 + 4 * R + 5 * A ≤ 60 := by have := hL.2.1; have := hL.2.2.2.1; omega
  generalize hn : 2 + 4 * R + 5 * A = n at hn6 hz
  have key : ∃ sg, M_X1_take tsz tpl sg0 a1 a2 a3 a4 (nI 0) = some (sg, nI n, 0, -9, 0) ∧ ∀ j, j < n → sg j = tpl 0 j := by
    unfold M_X1_take
    have em : M_J9_min_7cf53 (nI n) 60 = nI n := by unfold M_J9_min_7cf53; rw [if_neg (rN 60 hn6)]
    rw [pu_size (by decide) (by decide), hz, Option.bind_some, em]
    exact pu_lp (fun fu k (x : Nat → Int32) => ∃ sg, M_X1_take_b19 tsz tpl fu x (nI n) a2 a3 a4 (nI 0) (nI k) = some (sg, nI n, 0, -9, 0) ∧ ∀ j, j < n → sg j = tpl 0 j)
      (fun k x => ∀ j, j < k → x j = tpl 0 j) n (by omega)
      (fun fu x h => ⟨x, by rw [M_X1_take_b19, if_pos (pu_le (by omega) (by omega) (Nat.le_refl n))], h⟩)
      (fun fu k x hk h ih => by
        rw [M_X1_take_b19, if_neg (nI_ge hk (by omega)), pu_get (by decide) (by decide) hn6 (by decide) hz hk, Option.bind_some, if_pos (pu_inb (by omega) (by decide)), nI_clamp (by omega), nI_1]
        refine ih _ (fun j hj => ?_)
        by_cases e : j = k
        · subst e; rw [pu_us]
        · rw [pu_un e]; exact h j (by omega))
      sg0 (fun j hj => absurd hj (by omega))
  obtain ⟨sg, k1, k2⟩ := key
  have hX' : TX R A row sg := hX.of (fun j hj => k2 j (by omega))
  obtain ⟨st', ki, sr, mo, ne, fo, r1, r2⟩ := rr_T (kinds := kinds) (strengths := strengths) (moved := moved) (needs := needs) (forbids := forbids) hL hX' tsz tpl hn.symm hn6 0
  refine ⟨sg, st', ki, sr, mo, ne, fo, ?_, r2⟩
  unfold M_X1_read M_X2_clear
  show ((M_X1_take tsz tpl sg0 a1 a2 a3 a4 (nI 0)).bind _) = _
  rw [k1, Option.bind_some]
  show M_X1_read_b13 tsz tpl (999999 + 1) sg (nI n) (nI 0) (-9) 0 0 0 0 0 kinds strengths moved needs forbids 0 = _
  rw [M_X1_read_b13, if_neg (by decide), if_pos rfl, mo_T (by omega) hn6 (by rw [hX'.1]; decide), Option.bind_some, if_neg n10, it_h hL hX' hn.symm hn6, Option.bind_some]
  exact r1
end
theorem lb_C (st : Nat → Int64) (sz : Int32) (kz : Nat → Int32) (s : Int64) : ∃ kz', M_X0_begin st sz kz s = some (vp_updL st 0 s, 0, kz') ∧ ∀ k, k < 3 → kz' k = -1 :=
  pu_lp (fun n k x => ∃ kz', M_X0_begin_b14 n (vp_updL st 0 s) 0 x (nI k) = some (vp_updL st 0 s, 0, kz') ∧ ∀ k, k < 3 → kz' k = -1)
    (fun k x => ∀ j, j < k → x j = -1) 3 (by omega)
    (fun n x hx => ⟨x, by rw [M_X0_begin_b14, if_pos (show (3 : Int32) ≤ nI 3 by decide)], hx⟩)
    (fun n k x hk hx ih => by
      rw [M_X0_begin_b14, if_neg (gN 3 hk), if_pos (pu_inb hk (by decide)), nI_clamp (by omega), nI_1]
      refine ih _ (fun j hj => ?_)
      by_cases e : j = k
      · subst e; rw [pu_us]
      · rw [pu_un e]; exact hx j (by omega))
    kz (fun j hj => absurd hj (by omega))
theorem t_court {R A : Nat} {row : Nat → Int32} (S : x_S) (hL : LW R A row) (hX : TX R A row (S.2.2.2.2.2.2.2.2.2.2.2.2.1 0)) (hz : S.2.2.2.2.2.2.2.2.2.2.2.1 0 = nI (2 + 4 * R + 5 * A)) :
    ∃ Y kinds strengths moved needs forbids s kz, M_LR_court S (0 : Int32) = some (nI R, (TS Y R A kinds strengths moved needs forbids S.1 S.2.1 S.2.2.1 S.2.2.2.1 S.2.2.2.2.1 S.2.2.2.2.2.1 (vp_updL S.2.2.2.2.2.2.1 0 s) (nI 0) S.2.2.2.2.2.2.2.2.1 kz S.2.2.2.2.2.2.2.2.2.2.1 0 S.2.2.2.2.2.2.2.2.2.2.2.2.2.2.2.2.2.2.2.2.2.2.2.2.2.2.2.2.2.2.2.2.2.2.2.2.2.2)) ∧ RD R A row kinds strengths moved needs forbids s ∧ (∀ k, k < 3 → kz k = -1) ∧ Y.1 = S.2.2.2.2.2.2.2.2.2.2.2.1 ∧ Y.2.1 = S.2.2.2.2.2.2.2.2.2.2.2.2.1 := by
  have hn6 : 2 + 4 * R + 5 * A ≤ 60 := by have := hL.2.1; have := hL.2.2.2.1; omega
  obtain ⟨sg, s, ki, sr, mo, ne, fo, k1, k2⟩ := read_T (kinds := S.2.2.2.2.2.2.2.2.2.2.2.2.2.2.2.2.2.2.2.2.2.2.1) (strengths := S.2.2.2.2.2.2.2.2.2.2.2.2.2.2.2.2.2.2.2.2.2.2.2.1) (moved := S.2.2.2.2.2.2.2.2.2.2.2.2.2.2.2.2.2.2.2.2.2.2.2.2.1) (needs := S.2.2.2.2.2.2.2.2.2.2.2.2.2.2.2.2.2.2.2.2.2.2.2.2.2.1) (forbids := S.2.2.2.2.2.2.2.2.2.2.2.2.2.2.2.2.2.2.2.2.2.2.2.2.2.2.1) hL hX hz S.2.2.2.2.2.2.2.2.2.2.2.2.2.1 S.2.2.2.2.2.2.2.2.2.2.2.2.2.2.1 S.2.2.2.2.2.2.2.2.2.2.2.2.2.2.2.1 S.2.2.2.2.2.2.2.2.2.2.2.2.2.2.2.2.1 S.2.2.2.2.2.2.2.2.2.2.2.2.2.2.2.2.2.1 S.2.2.2.2.2.2.2.2.2.2.2.2.2.2.2.2.2.2.1 S.2.2.2.2.2.2.2.2.2.2.2.2.2.2.2.2.2.2.2.1 S.2.2.2.2.2.2.2.2.2.2.2.2.2.2.2.2.2.2.2.2.1 S.2.2.2.2.2.2.2.2.2.2.2.2.2.2.2.2.2.2.2.2.2.1
  obtain ⟨kz, z1, z2⟩ := lb_C S.2.2.2.2.2.2.1 S.2.2.2.2.2.2.2.1 S.2.2.2.2.2.2.2.2.2.1 s
  refine ⟨(S.2.2.2.2.2.2.2.2.2.2.2.1, S.2.2.2.2.2.2.2.2.2.2.2.2.1, sg, nI (2 + 4 * R + 5 * A), nI (2 + 4 * R + 5 * A), -9, 1, S.2.2.2.2.2.2.2.2.2.2.2.2.2.2.2.2.2.2.2.2.2.2.2.2.2.2.2.2.1, S.2.2.2.2.2.2.2.2.2.2.2.2.2.2.2.2.2.2.2.2.2.2.2.2.2.2.2.2.2.1, S.2.2.2.2.2.2.2.2.2.2.2.2.2.2.2.2.2.2.2.2.2.2.2.2.2.2.2.2.2.2.1, S.2.2.2.2.2.2.2.2.2.2.2.2.2.2.2.2.2.2.2.2.2.2.2.2.2.2.2.2.2.2.2.1, S.2.2.2.2.2.2.2.2.2.2.2.2.2.2.2.2.2.2.2.2.2.2.2.2.2.2.2.2.2.2.2.2.1, S.2.2.2.2.2.2.2.2.2.2.2.2.2.2.2.2.2.2.2.2.2.2.2.2.2.2.2.2.2.2.2.2.2.1, S.2.2.2.2.2.2.2.2.2.2.2.2.2.2.2.2.2.2.2.2.2.2.2.2.2.2.2.2.2.2.2.2.2.2.1, S.2.2.2.2.2.2.2.2.2.2.2.2.2.2.2.2.2.2.2.2.2.2.2.2.2.2.2.2.2.2.2.2.2.2.2.1, S.2.2.2.2.2.2.2.2.2.2.2.2.2.2.2.2.2.2.2.2.2.2.2.2.2.2.2.2.2.2.2.2.2.2.2.2.1, S.2.2.2.2.2.2.2.2.2.2.2.2.2.2.2.2.2.2.2.2.2.2.2.2.2.2.2.2.2.2.2.2.2.2.2.2.2.1, s, S.2.2.2.2.2.2.2.2.2.2.2.2.2.2.2.2.2.2.2.2.2.2.2.2.2.2.2.1), ki, sr, mo, ne, fo, s, kz, ?_, k2, z2, rfl, rfl⟩
  unfold M_LR_court M_X6_court M_X6_refusalOfMissing_texts
  show (Option.bind (Option.bind (if M_X4_isNumber 4 60 (nI 0) = 0 then _ else (M_X4_isThere 4 60 S.2.2.2.2.2.2.2.2.2.2.2.1 (nI 0)).bind _) _) _) = _
  rw [pu_isN (by decide) (by decide), if_neg (by decide), pu_there1 (by decide) (by decide) (show 2 + 4 * R + 5 * A < 2 ^ 31 by omega) hz, Option.bind_some, if_neg (by decide), Option.bind_some, if_pos rfl, k1, Option.bind_some, if_pos rfl, z1]
  rfl
