/-! PURE PART: the reference's search, and least() -/
theorem d12 {a : Nat} (ha : a < 2 ^ 31) : nI a - nI a / (12 : Int32) * (12 : Int32) = nI (a % 12) := pk_rem (d := 12) ha (by omega) (by omega)
theorem q12 {a : Nat} (ha : a < 2 ^ 31) : nI a / (12 : Int32) = nI (a / 12) := pk_div (d := 12) ha (by omega) (by omega)
section
variable {R A D : Nat} {kinds strengths moved needs forbids now : Nat → Int32} {st : Nat → Int64}
theorem b11_C (now hand : Nat → Int32) (pb x2 x3 : Int32) : ∀ (i n x4 : Nat) (steps : Nat → Int32), i ≤ 4 → i < n → x4 < 2 ^ 31 →
    ∃ steps', (∀ j, j < i → steps' j = nI (dg i x4 j)) ∧ M_X7_goes_b11 now n hand steps pb x2 x3 (nI x4) 1 (nI i - 1) = (M_X7_layHand now hand).bind (fun r2 => M_X7_goes_b48 now x_fuel r2 steps' pb x2 x3 1 0) ∧ ∀ j, i ≤ j → steps' j = steps j := by
  intro i
  induction i with
  | zero =>
    intro n x4 steps hi hn hx
    obtain ⟨n, rfl⟩ : ∃ z, n = z + 1 := ⟨n - 1, by omega⟩
    rw [M_X7_goes_b11, if_pos (by decide)]
    exact ⟨steps, fun j h => absurd h (by omega), rfl, fun _ _ => rfl⟩
  | succ i ih =>
    intro n x4 steps hi hn hx
    obtain ⟨n, rfl⟩ : ∃ z, n = z + 1 := ⟨n - 1, by omega⟩
    rw [nI_pred, M_X7_goes_b11, if_neg (nI_pos (by omega)), if_pos (pu_inb (by omega) (by decide)), nI_clamp (by omega), d12 hx, q12 hx, show nI i + (-1 : Int32) = nI i - 1 from (Int32.sub_eq_add_neg _ _).symm]
    obtain ⟨steps', e1, e2, e3⟩ := ih n (x4 / 12) (upd steps i (nI (x4 % 12))) (by omega) (by omega) (by omega)
    refine ⟨steps', fun j hj => ?_, e2, fun j hj => by rw [e3 j (by omega), pu_un (by omega)]⟩
    by_cases q : j = i
    · subst q
      rw [e3 j (by omega), pu_us]
      unfold dg
      rw [show j + 1 - 1 - j = 0 by omega, Nat.pow_zero, Nat.div_one]
    · rw [e1 j (by omega)]
      unfold dg
      rw [Nat.div_div_eq_div_mul, ← Nat.pow_succ', show i + 1 - 1 - j = (i - 1 - j).succ by omega]
theorem b48_N {n : Nat} (m steps : Nat → Int32) (pb x2 x3 x6 : Int32) : M_X7_goes_b48 now (n + 1) m steps pb x2 x3 0 x6 = some (0, m, steps, pb) := by
  rw [M_X7_goes_b48]
  unfold M_X7_goes_b170
  by_cases q : x2 ≤ x6
  · rw [if_pos q, if_pos p00]
  · rw [if_neg q, if_pos p00, if_pos p00]
theorem go_48 {s0 : Int64} {a k : Nat} {steps : Nat → Int32} (ha : a < A) (hk : k ≤ 4) (hn0 : now 0 = nI R) (hn83 : now 83 = M_X5_parted s0) : ∀ (d n p code : Nat) (s : Int64) (m : Nat → Int32) (pb : Int32), p + d = k → d + 1 < n →
    pu_RS R A kinds strengths moved needs forbids m → pu_CD R s m → M_X5_parted s = M_X5_parted s0 → code < 12 ^ d → (∀ j, j < d → steps (p + j) = nI (dg d code j)) →
    ∃ m' pb', M_X7_goes_b48 now n m steps pb (nI k) (nI a) 1 (nI p) = some ((if lsOk R kinds strengths moved needs forbids a d s code then 1 else 0), m', steps, pb') := by
  intro d
  induction d with
  | zero =>
    intro n p code s m pb hp hn hRS hC' hpt hc hst
    obtain ⟨n, rfl⟩ : ∃ z, n = z + 1 := ⟨n - 1, by omega⟩
    rw [M_X7_goes_b48, if_pos (pu_le (by omega) (by omega) (by omega))]
    unfold M_X7_goes_b170
    rw [if_neg n10, tt_eq hRS hC', Option.bind_some, rs_isLawful hRS ha (fun j hj h => tt_all hRS hC' hj h), Option.bind_some]
    show ∃ m' pb', _ = some ((if law1 R needs forbids (tautF s) a then (1 : Int32) else 0), m', steps, pb')
    by_cases q : law1 R needs forbids (tautF s) a = true
    · rw [if_pos q, if_neg n10]; exact ⟨_, _, rfl⟩
    · rw [if_neg q, if_pos p00]; exact ⟨_, _, rfl⟩
  | succ d ih =>
    intro n p code s m pb hp hn hRS hC' hpt hc hst
    have hR := hRS.1
    obtain ⟨n, rfl⟩ : ∃ z, n = z + 1 := ⟨n - 1, by omega⟩
    obtain ⟨n', hn'⟩ : ∃ z, n = z + 1 := ⟨n - 1, by omega⟩
    have ec := dg_c hc
    have hcl := dg_lt (d + 1) code 0
    have hcr : code % 12 ^ d < 12 ^ d := Nat.mod_lt _ (Nat.pow_pos (by decide))
    have hs0 := hst 0 (by omega)
    rw [Nat.add_zero] at hs0
    have hst' : ∀ j, j < d → steps (p + 1 + j) = nI (dg d (code % 12 ^ d) j) := fun j hj => by
      have := hst (j + 1) (by omega)
      rw [show p + 1 + j = p + (j + 1) by omega, this]
      generalize dg (d + 1) code 0 = c at ec
      rw [ec, dg_s hj]
      congr 2
      rw [Nat.mul_comm c, Nat.mul_add_mod]
      exact (Nat.mod_eq_of_lt hcr).symm
    generalize dg (d + 1) code 0 = c at ec hcl hs0
    generalize code % 12 ^ d = rest at ec hcr hst'
    subst ec
    have ok : lsOk R kinds strengths moved needs forbids a (d + 1) s (c * 12 ^ d + rest) = (lsS R kinds strengths moved s c).elim false (fun s' => lsOk R kinds strengths moved needs forbids a d s' rest) := ok_s hcr
    have hm : c % 6 < 6 := Nat.mod_lt _ (by decide)
    have ed : nI c - nI c / (6 : Int32) * (6 : Int32) = nI (c % 6) := pk_rem (d := 6) (by omega) (by decide) (by decide)
    rw [M_X7_goes_b48, if_neg (pu_nle (by omega) (by omega) (by omega)), if_neg n10, if_pos (pu_inb (by omega) (by decide)), nI_clamp (by omega), hs0, ed, hn0]
    have stop : lsS R kinds strengths moved s c = none → ∀ m1 pb1, ∃ m' pb', M_X7_goes_b48 now n m1 steps pb1 (nI k) (nI a) 0 (nI p + 1) = some ((if lsOk R kinds strengths moved needs forbids a (d + 1) s (c * 12 ^ d + rest) then 1 else 0), m', steps, pb') := fun e m1 pb1 => by
      rw [ok, e, hn', b48_N]
      exact ⟨m1, pb1, rfl⟩
    by_cases c1 : c % 6 < R
    · rw [if_neg (nI_ge c1 (by omega)), rs_fast hC' hm]
      rcases fast_b (s := s) (i := c % 6) hm with ⟨f1, f2, f3⟩ | f3
      · rw [f3, if_neg n10]
        unfold M_X7_goes_b99 M_X7_goes_b137 M_X7_goes_b162 M_X7_goes_b164
        rw [if_neg n10, if_pos (pu_inb (by omega) (by decide)), nI_clamp (by omega), hs0, hn83]
        have key : ∀ (s' : Int64) (m1 : Nat → Int32) (pb1 : Int32), pu_CD R s' m1 → (∀ j, j < 76 → m1 j = m j) → lsS R kinds strengths moved s c = (if M_X5_parted s' = M_X5_parted s then some s' else none) →
            ∃ m' pb', (if m1 83 = M_X5_parted s0 then M_X7_goes_b48 now n m1 steps pb1 (nI k) (nI a) 1 (nI p + 1) else M_X7_goes_b48 now n m1 steps pb1 (nI k) (nI a) 0 (nI p + 1)) = some ((if lsOk R kinds strengths moved needs forbids a (d + 1) s (c * 12 ^ d + rest) then 1 else 0), m', steps, pb') := by
          intro s' m1 pb1 k2 k3 e
          rw [k2.2.2.2.1, ← hpt]
          by_cases c3 : M_X5_parted s' = M_X5_parted s
          · rw [if_pos c3] at e
            rw [if_pos c3, ok, e, nI_1]
            exact ih n (p + 1) rest s' m1 pb1 (by omega) (by omega) (hRS.of (fun j hj => k3 j (by omega))) k2 (c3.trans hpt) hcr hst'
          · rw [if_neg c3] at e
            rw [if_neg c3]
            exact stop e m1 pb1
        by_cases c2 : c < 6
        · obtain ⟨m1, pb1, k1, k2, k3, -⟩ := dh_haul hRS hC' c1 f1 f2 (v := 1) (by omega) (by omega)
          rw [if_neg (gN 6 c2), show (110 : Int32) + nI (c % 6) = nI (100 + 10 * 1 + c % 6) from nI_add 110 _, k1 pb, Option.bind_some]
          exact key _ m1 pb1 k2 k3 (lsS_hl c2 c1 f3)
        · obtain ⟨m1, k1, k2, k3⟩ := dh_slack hR hC' c1 pb
          rw [if_pos (gL 6 (by omega) (by omega)), show (200 : Int32) + nI (c % 6) = nI (200 + c % 6) from nI_add 200 _, k1, Option.bind_some]
          exact key _ m1 pb k2 k3 (lsS_lg c2 c1 f3)
      · rw [f3, if_pos p00]
        unfold M_X7_goes_b98 M_X7_goes_b99 M_X7_goes_b164
        rw [if_pos p00]
        exact stop (lsS_no (fun z => by rw [f3] at z; exact absurd z.2 (by decide))) m pb
    · rw [if_pos (pu_le (by omega) (by omega) (by omega))]
      unfold M_X7_goes_b98 M_X7_goes_b99 M_X7_goes_b164
      rw [if_pos p00]
      exact stop (lsS_no (fun z => c1 z.1)) m pb
theorem go_C (h1 : pu_RS R A kinds strengths moved needs forbids now) {s : Int64} (h2 : pu_CD R s now) {a k code : Nat} (ha : a < A) (hk : k ≤ 4) (hc : code < 12 ^ k) (hand steps : Nat → Int32) (pb : Int32) :
    ∃ hand' steps' pb', M_X7_goes now hand steps pb (nI code) (nI k) (nI a) = some ((if lsOk R kinds strengths moved needs forbids a k s code then 1 else 0), hand', steps', pb') ∧ ∀ j, j < k → steps' j = nI (dg k code j) := by
  have hp : (12 : Nat) ^ k ≤ 12 ^ 4 := Nat.pow_le_pow_right (by decide) hk
  obtain ⟨steps', e1, e2, -⟩ := b11_C now hand pb (nI k) (nI a) k x_fuel code steps hk (by unfold x_fuel; omega) (by omega)
  obtain ⟨x, k1, k2, k3, k4⟩ := hand_C h1 h2 hand
  obtain ⟨m', pb', e3⟩ := go_48 (s0 := s) (steps := steps') ha hk h1.2.2.1 h2.2.2.2.1 k x_fuel 0 code s x pb (by omega) (by unfold x_fuel; omega) k3 k4 rfl hc (fun j hj => by rw [Nat.zero_add]; exact e1 j hj)
  refine ⟨m', steps', pb', ?_, e1⟩
  unfold M_X7_goes
  rw [e2, k1, Option.bind_some]
  exact e3
/-- the codes of one length: all in vain, or the first that does -/
theorem b41_N (h1 : pu_RS R A kinds strengths moved needs forbids now) {s : Int64} (h2 : pu_CD R s now) {a L : Nat} (ha : a < A) (hL : L ≤ 4) (x2 : Int32) (rw0 rl : Nat → Int32)
    {k32 : (Nat → Int32) → (Nat → Int32) → (Nat → Int32) → (Nat → Int32) → Int32 → Int32 → Int32 → Int32 → Int32 → Option (Int32 × (Nat → Int32) × (Nat → Int32) × (Nat → Int32) × (Nat → Int32) × Int32)}
    (hz : ∀ c', c' < 12 ^ L → lsOk R kinds strengths moved needs forbids a L s c' = false) (hand steps : Nat → Int32) (pb : Int32) :
    ∃ hand' steps' pb', M_X7_least_b41 now k32 x_fuel rw0 rl hand steps pb (nI a) x2 (nI (12 ^ L)) (nI L) 0 = k32 rw0 rl hand' steps' pb' (nI a) x2 (nI (12 ^ (L + 1))) (nI (L + 1)) := by
  have hp : (12 : Nat) ^ L ≤ 12 ^ 4 := Nat.pow_le_pow_right (by decide) hL
  exact pu_lp (fun n c (z : (Nat → Int32) × (Nat → Int32) × Int32) => ∃ hand' steps' pb', M_X7_least_b41 now k32 n rw0 rl z.1 z.2.1 z.2.2 (nI a) x2 (nI (12 ^ L)) (nI L) (nI c) = k32 rw0 rl hand' steps' pb' (nI a) x2 (nI (12 ^ (L + 1))) (nI (L + 1)))
    (fun _ _ => True) (12 ^ L) (by omega)
    (fun n z _ => by
      rw [M_X7_least_b41, if_pos (pu_le (by omega) (by omega) (Nat.le_refl _)), nI_1, show (12 : Int32) = nI 12 from rfl, pk_mul, ← Nat.pow_succ]
      exact ⟨_, _, _, rfl⟩)
    (fun n c z hc _ ih => by
      obtain ⟨hand', steps', pb', e, -⟩ := go_C h1 h2 ha hL hc z.1 z.2.1 z.2.2
      rw [M_X7_least_b41, if_neg (nI_ge hc (by omega)), e, Option.bind_some, hz c hc, nI_1]
      exact ih (hand', steps', pb') trivial)
    (hand, steps, pb) trivial
theorem b41_S (h1 : pu_RS R A kinds strengths moved needs forbids now) {s : Int64} (h2 : pu_CD R s now) {a L code r : Nat} (ha : a < A) (hL : L ≤ 4) (hr : r < 6) (rw0 rl : Nat → Int32)
    {k32 : (Nat → Int32) → (Nat → Int32) → (Nat → Int32) → (Nat → Int32) → Int32 → Int32 → Int32 → Int32 → Int32 → Option (Int32 × (Nat → Int32) × (Nat → Int32) × (Nat → Int32) × (Nat → Int32) × Int32)}
    (hc : code < 12 ^ L) (ho : lsOk R kinds strengths moved needs forbids a L s code = true) (hz : ∀ c', c' < code → lsOk R kinds strengths moved needs forbids a L s c' = false) (hand steps : Nat → Int32) (pb : Int32) :
    ∃ hand' steps' pb', M_X7_least_b41 now k32 x_fuel rw0 rl hand steps pb (nI a) (nI r) (nI (12 ^ L)) (nI L) 0 = M_X7_least_b70 now x_fuel rw0 (upd rl r (nI L)) hand' steps' pb' (nI r) (nI L) 0 ∧ ∀ j, j < L → steps' j = nI (dg L code j) := by
  have hp : (12 : Nat) ^ L ≤ 12 ^ 4 := Nat.pow_le_pow_right (by decide) hL
  exact pu_lp (fun n c (z : (Nat → Int32) × (Nat → Int32) × Int32) => ∃ hand' steps' pb', M_X7_least_b41 now k32 n rw0 rl z.1 z.2.1 z.2.2 (nI a) (nI r) (nI (12 ^ L)) (nI L) (nI c) = M_X7_least_b70 now x_fuel rw0 (upd rl r (nI L)) hand' steps' pb' (nI r) (nI L) 0 ∧ ∀ j, j < L → steps' j = nI (dg L code j))
    (fun _ _ => True) code (by omega)
    (fun n z _ => by
      obtain ⟨hand', steps', pb', e, e2⟩ := go_C h1 h2 ha hL hc z.1 z.2.1 z.2.2
      rw [M_X7_least_b41, if_neg (nI_ge hc (by omega)), e, Option.bind_some, ho]
      refine ⟨hand', steps', pb', ?_, e2⟩
      rw [if_neg (show ¬ (if true = true then (1 : Int32) else 0) = 0 by decide), if_pos (pu_inb hr (by decide)), nI_clamp (by omega)])
    (fun n c z hc' _ ih => by
      obtain ⟨hand', steps', pb', e, -⟩ := go_C h1 h2 ha hL (show c < 12 ^ L by omega) z.1 z.2.1 z.2.2
      rw [M_X7_least_b41, if_neg (nI_ge (by omega) (by omega)), e, Option.bind_some, hz c hc', nI_1]
      exact ih (hand', steps', pb') trivial)
    (hand, steps, pb) trivial
theorem b32_to (h1 : pu_RS R A kinds strengths moved needs forbids now) {s : Int64} (h2 : pu_CD R s now) {a L : Nat} (ha : a < A) (hL : L ≤ 5) (x2 : Int32) (rw0 rl : Nat → Int32)
    (hz : ∀ L' c', L' < L → c' < 12 ^ L' → lsOk R kinds strengths moved needs forbids a L' s c' = false) : ∀ (d i n : Nat) (hand steps : Nat → Int32) (pb : Int32), i + d = L →
    ∃ hand' steps' pb', M_X7_least_b32 now (n + d) rw0 rl hand steps pb (nI a) x2 (nI (12 ^ i)) (nI i) = M_X7_least_b32 now n rw0 rl hand' steps' pb' (nI a) x2 (nI (12 ^ L)) (nI L) := by
  intro d
  induction d with
  | zero => intro i n hand steps pb hi; subst hi; exact ⟨hand, steps, pb, rfl⟩
  | succ d ih =>
    intro i n hand steps pb hi
    rw [show n + (d + 1) = n + d + 1 by omega, M_X7_least_b32, if_neg (rN 4 (by omega))]
    obtain ⟨hand1, steps1, pb1, e1⟩ := b41_N h1 h2 (L := i) ha (by omega) x2 rw0 rl (k32 := fun (rows' : (Nat → Int32)) (rowLong' : (Nat → Int32)) (hand' : (Nat → Int32)) (steps' : (Nat → Int32)) (partedBy' : Int32) (x1' : Int32) (x2' : Int32) (x3' : Int32) (x4' : Int32) => M_X7_least_b32 now (n + d) rows' rowLong' hand' steps' partedBy' x1' x2' x3' x4') (fun c' hc' => hz i c' (by omega) hc') hand steps pb
    rw [e1]
    exact ih (i + 1) n hand1 steps1 pb1 (by omega)
/-- the rows that both write at last -/
theorem b70_C {r L : Nat} (hr : r < 6) (hL : L ≤ 4) (rw0 rl hand steps : Nat → Int32) (pb : Int32) :
    ∃ rw', M_X7_least_b70 now x_fuel rw0 rl hand steps pb (nI r) (nI L) 0 = some (nI L, rw', rl, hand, steps, pb) ∧ (∀ j, j < L → rw' (40 * r + j) = steps j) ∧ ∀ j, (j < 40 * r ∨ 40 * r + L ≤ j) → rw' j = rw0 j :=
  pu_lp (fun n k z => ∃ rw', M_X7_least_b70 now n z rl hand steps pb (nI r) (nI L) (nI k) = some (nI L, rw', rl, hand, steps, pb) ∧ (∀ j, j < L → rw' (40 * r + j) = steps j) ∧ ∀ j, (j < 40 * r ∨ 40 * r + L ≤ j) → rw' j = rw0 j)
    (fun k z => (∀ j, j < k → z (40 * r + j) = steps j) ∧ ∀ j, (j < 40 * r ∨ 40 * r + L ≤ j) → z j = rw0 j) L (by omega)
    (fun n z h => ⟨z, by rw [M_X7_least_b70, if_pos (pu_le (by omega) (by omega) (Nat.le_refl L))], h.1, h.2⟩)
    (fun n k z hk h ih => by
      rw [M_X7_least_b70, if_neg (nI_ge hk (by omega)), if_pos (pu_inb (by omega) (by decide)), pu_e40, if_pos (pu_inb (by omega) (by decide)), nI_clamp (by omega), nI_clamp (by omega), nI_1]
      refine ih _ ⟨fun j hj => ?_, fun j hj => ?_⟩
      · by_cases e : j = k
        · subst e; rw [pu_us]
        · rw [pu_un (by omega)]; exact h.1 j (by omega)
      · rw [pu_un (by omega)]; exact h.2 j hj)
    rw0 ⟨fun j hj => absurd hj (by omega), fun _ _ => rfl⟩
theorem b65_C {x1 x2' : Int32} {r L : Nat} (hr : r < 6) (hL : L ≤ 4) {sz : Nat → Int32} (hs : sz r = nI L) (pl : Nat → Nat → Int32) (rch : Int32) (tried : Nat → Int32) :
    ∃ pl', M_X6_least_b65 st x1 x2' (nI A) kinds strengths moved needs forbids x_fuel sz pl rch tried (nI r) (nI L) 0 = some (nI L, sz, pl', rch, tried) ∧ (∀ j, j < L → pl' r j = tried j) ∧ ∀ r', r' ≠ r → pl' r' = pl r' :=
  pu_lp (fun n k z => ∃ pl', M_X6_least_b65 st x1 x2' (nI A) kinds strengths moved needs forbids n sz z rch tried (nI r) (nI L) (nI k) = some (nI L, sz, pl', rch, tried) ∧ (∀ j, j < L → pl' r j = tried j) ∧ ∀ r', r' ≠ r → pl' r' = pl r')
    (fun k z => (∀ j, j < k → z r j = tried j) ∧ ∀ r', r' ≠ r → z r' = pl r') L (by omega)
    (fun n z h => ⟨z, by rw [M_X6_least_b65, if_pos (pu_le (by omega) (by omega) (Nat.le_refl L))], h.1, h.2⟩)
    (fun n k z hk h ih => by
      rw [M_X6_least_b65, if_neg (nI_ge hk (by omega)), if_neg (gN 4 (by omega)), if_pos (pu_inb (by omega) (by decide)), nI_clamp (by omega), pu_set hr (by decide) (show L ≤ 40 by omega) (by decide) hs hk, Option.bind_some, nI_1]
      refine ih _ ⟨fun j hj => ?_, fun r' hr' => ?_⟩
      · rw [pu_2s]
        by_cases e : j = k
        · subst e; rw [pu_us]
        · rw [pu_un e]; exact h.1 j (by omega)
      · rw [pu_2n hr']; exact h.2 r' hr')
    pl ⟨fun j hj => absurd hj (by omega), fun _ _ => rfl⟩
theorem p_least (h : pu_C R A kinds strengths moved needs forbids st D now) {sz rl rw : Nat → Int32} {pl : Nat → Nat → Int32} (hS : pu_S 6 40 sz pl rl rw) (hand steps tried : Nat → Int32) (rch pb x1 x2 : Int32) :
    ∃ v sz' pl' rch' tried' rw' rl' hand' steps' pb', M_X6_least st (nI D) (nI R) (nI A) kinds strengths moved needs forbids sz pl rch tried x1 x2 = some (v, sz', pl', rch', tried') ∧ M_X7_least now rw rl hand steps pb x1 x2 = some (v, rw', rl', hand', steps', pb') ∧ pu_S 6 40 sz' pl' rl' rw' := by
  obtain ⟨h1, h2, h3, -⟩ := h
  have hA := h1.2.1
  unfold M_X6_least M_X7_least
  rw [h1.2.2.2.1]
  rcases pu_inS (z := A) (by omega) x1 with ⟨a, ha, rfl, e⟩ | ⟨q, e⟩
  · have ea : M_X2_isAct (nI A) (nI a) = 1 := by
      unfold M_X2_isAct
      rw [if_neg (nI_pos (by omega)), if_neg (nI_ge ha (by omega)), if_neg (gN 4 (by omega))]
    rw [ea, e, if_neg n10, if_neg n10]
    rcases pu_numR x2 with ⟨r, hr, rfl, g1, g2⟩ | ⟨g1, g2⟩
    · rw [g1, g2, if_neg n10, if_neg n10, now_C h3, Option.bind_some]
      obtain ⟨v, rch', tried', e1, e2⟩ := fw_C (a := a) ha rch tried ⟨now, h1, h2⟩
      rw [e1, Option.bind_some]
      rcases e2 with ⟨L, code, hL, rfl, ⟨c1, c2, c3, c4⟩, c5⟩ | ⟨rfl, c1⟩
      · rw [if_neg (pu_nI9 (by omega))]
        obtain ⟨q, hq1, hq2⟩ := pu_make (N := 6) (M := 40) (sizes := sz) (places := pl) hr (by decide) (show L ≤ 40 by omega) (by decide) (most := 40) (blank := 0) rfl
        obtain ⟨pl', f1, f2, f3⟩ := b65_C (st := st) (A := A) (kinds := kinds) (strengths := strengths) (moved := moved) (needs := needs) (forbids := forbids) (x1 := nI D) (x2' := nI R) hr hL (sz := upd sz r (nI L)) pu_us (upd2 pl r q) rch' tried'
        obtain ⟨hand1, steps1, pb1, k1⟩ := b32_to h1 h2 ha (show L ≤ 5 by omega) (nI r) rw rl c4 L 0 (x_fuel - L) hand steps pb (by omega)
        rw [show x_fuel - L + L = x_fuel from Nat.sub_add_cancel (by unfold x_fuel; omega)] at k1
        obtain ⟨n', hn'⟩ : ∃ z, x_fuel - L = z + 1 := ⟨x_fuel - L - 1, by unfold x_fuel; omega⟩
        obtain ⟨hand2, steps2, pb2, k2, k3⟩ := b41_S h1 h2 ha hL hr rw rl (k32 := fun (rows' : (Nat → Int32)) (rowLong' : (Nat → Int32)) (hand' : (Nat → Int32)) (steps' : (Nat → Int32)) (partedBy' : Int32) (x1' : Int32) (x2' : Int32) (x3' : Int32) (x4' : Int32) => M_X7_least_b32 now n' rows' rowLong' hand' steps' partedBy' x1' x2' x3' x4') c1 c2 c3 hand1 steps1 pb1
        obtain ⟨rw', k4, k5, k6⟩ := b70_C (now := now) hr hL rw (upd rl r (nI L)) hand2 steps2 pb2
        refine ⟨nI L, upd sz r (nI L), pl', rch', tried', rw', upd rl r (nI L), hand2, steps2, pb2, ?_, ?_, ?_⟩
        · show (M_X4_make 6 40 40 0 sz pl (nI r) (nI L)).bind _ = _
          rw [hq1, Option.bind_some]
          exact f1
        · refine Eq.trans k1 ?_
          rw [hn', M_X7_least_b32, if_neg (rN 4 hL), k2, k4]
        · intro r' hr'
          by_cases w : r' = r
          · subst w
            rw [pu_us, pu_us]
            exact ⟨rfl, .inr ⟨L, by omega, rfl, fun i hi => by rw [f2 i hi, c5 i hi, k5 i hi, k3 i hi]⟩⟩
          · rw [pu_un w, pu_un w, f3 r' w, pu_2n w]
            refine ⟨(hS r' hr').1, (hS r' hr').2.imp id (fun ⟨z, a1, b1, c1⟩ => ⟨z, a1, b1, fun i hi => ?_⟩)⟩
            rw [c1 i hi, k6 _ (by omega)]
      · rw [if_pos rfl]
        obtain ⟨hand1, steps1, pb1, k1⟩ := b32_to h1 h2 ha (show 5 ≤ 5 by omega) (nI r) rw rl c1 5 0 (x_fuel - 5) hand steps pb (by omega)
        rw [show x_fuel - 5 + 5 = x_fuel from Nat.sub_add_cancel (by unfold x_fuel; omega)] at k1
        obtain ⟨n', hn'⟩ : ∃ z, x_fuel - 5 = z + 1 := ⟨x_fuel - 5 - 1, by unfold x_fuel; omega⟩
        refine ⟨-9, sz, pl, rch', tried', rw, rl, hand1, steps1, pb1, rfl, Eq.trans k1 ?_, hS⟩
        rw [hn', M_X7_least_b32, if_pos (rL 4 (by omega) (by omega))]
    · rw [g1, g2, if_pos p00, if_pos p00]
      exact ⟨_, _, _, _, _, _, _, _, _, _, rfl, rfl, hS⟩
  · have ea : M_X2_isAct (nI A) x1 = 0 := by
      unfold M_X2_isAct
      rcases q with q | q
      · rw [if_pos q]
      · by_cases q0 : x1 < 0
        · rw [if_pos q0]
        · rw [if_neg q0, if_pos q]
    rw [ea, e, if_pos p00, if_pos p00]
    exact ⟨_, _, _, _, _, _, _, _, _, _, rfl, rfl, hS⟩
end
